/-! X7_within -/
def rm_X7_within : Room := { frames := 0, cells := 0, slots := 0, locals := 0 }
theorem nd_X7_within : yX7_within.cls ≠ "java/lang/invoke/MethodHandle" ∧ yX7_within.cls ≠ "java/lang/invoke/VarHandle" ∧ (parseMethodDescriptor yX7_within.desc).map (fun d => d.parameters.length) = some 3 := by decide +kernel
def f_X7_within  (x0 : Int32) (x1 : Int32) (x2 : Int32) : Option (Int32) := (if x0 < x1 then some 0 else (if x2 < x0 then some 0 else some 1))
set_option maxHeartbeats 4000000 in
set_option maxRecDepth 100000 in
theorem k_X7_within (l : Launch) {D : va_G} {cI cB : ClassId} {kK kV : Nat → Nat}   (x0 : Int32) (x1 : Int32) (x2 : Int32) {rr : Int32}  (hf : f_X7_within x0 x1 x2 = some rr) : Ct l yX7_within wsX7_within rm_X7_within D cI cB kK kV [.int x0, .int x1, .int x2] ([] : va_W) ([] : va_W) (some (.int rr)) := by
  refine Ct.of (cc := cX7_within) (maxL := 3) (ret := (some .boolean)) (by decide) rfl (Nat.le_of_ble_eq_true rfl) rfl ?_
  intro p e s m below meth c A ls F hP hD hS hl
  have hl : lv_has ls 3 [(0, .int x0), (1, .int x1), (2, .int x2)] := hl
  obtain ⟨hx, hb, hml, hown, hts, hrt, hlocks, hK, hA, hZ⟩ := id F
  obtain ⟨H, hH⟩ : ∃ H, H = s.heap := ⟨_, rfl⟩
  obtain ⟨locs, hLo⟩ : ∃ q : List Loc, q = [] := ⟨_, rfl⟩
  refine (?_ : W p l e rm_X7_within s m _ below meth c s.heap [] 0 0 _ _)
  rw [← hH, ← hLo]
  rw [← hH] at hP
  have hS : va_S A s.heap H locs := by rw [hH, hLo]; exact hS
  refine lv_iload_n hx hb dX7_within_0 rfl (lv_at hl 0 rfl) ?_
  refine lv_iload_n hx hb dX7_within_1 rfl (lv_at hl 1 rfl) ?_
  refine lv_icmp_lt (tgt := 14) hx hb dX7_within_2 (by decide) (fun c1 => ?_) (fun c1 => ?_)
  · replace hf := (if_pos c1).symm.trans hf
    refine lv_iconst (v := 0) hx hb dX7_within_14 (by decide) ?_
    replace hf : (some 0 : Option (Int32)) = some rr := hf
    cases hf
    exact ret_z F rfl hP hS dX7_within_15
  · replace hf := (if_neg c1).symm.trans hf
    refine lv_iload_n hx hb dX7_within_5 rfl (lv_at hl 0 rfl) ?_
    refine lv_iload_n hx hb dX7_within_6 rfl (lv_at hl 2 rfl) ?_
    refine lv_icmp_gt (tgt := 14) hx hb dX7_within_7 (by decide) (fun c2 => ?_) (fun c2 => ?_)
    · replace hf := (if_pos c2).symm.trans hf
      refine lv_iconst (v := 0) hx hb dX7_within_14 (by decide) ?_
      replace hf : (some 0 : Option (Int32)) = some rr := hf
      cases hf
      exact ret_z F rfl hP hS dX7_within_15
    · replace hf := (if_neg c2).symm.trans hf
      refine lv_iconst (v := 1) hx hb dX7_within_10 (by decide) ?_
      refine lv_goto (tgt := 15) hx hb dX7_within_11 (by decide) ?_
      replace hf : (some 1 : Option (Int32)) = some rr := hf
      cases hf
      exact ret_z F rfl hP hS dX7_within_15

/-! X7_isIn -/
def rm_X7_isIn : Room := { frames := 0, cells := 0, slots := 0, locals := 0 }
theorem nd_X7_isIn : yX7_isIn.cls ≠ "java/lang/invoke/MethodHandle" ∧ yX7_isIn.cls ≠ "java/lang/invoke/VarHandle" ∧ (parseMethodDescriptor yX7_isIn.desc).map (fun d => d.parameters.length) = some 2 := by decide +kernel
def f_X7_isIn  (x0 : Int32) (x1 : Int32) : Option (Int32) := (if ((x0 >>> (x1 &&& 31)) &&& 1) = 1 then some 1 else some 0)
set_option maxHeartbeats 4000000 in
set_option maxRecDepth 100000 in
theorem k_X7_isIn (l : Launch) {D : va_G} {cI cB : ClassId} {kK kV : Nat → Nat}   (x0 : Int32) (x1 : Int32) {rr : Int32}  (hf : f_X7_isIn x0 x1 = some rr) : Ct l yX7_isIn wsX7_isIn rm_X7_isIn D cI cB kK kV [.int x0, .int x1] ([] : va_W) ([] : va_W) (some (.int rr)) := by
  refine Ct.of (cc := cX7_isIn) (maxL := 2) (ret := (some .boolean)) (by decide) rfl (Nat.le_of_ble_eq_true rfl) rfl ?_
  intro p e s m below meth c A ls F hP hD hS hl
  have hl : lv_has ls 2 [(0, .int x0), (1, .int x1)] := hl
  obtain ⟨hx, hb, hml, hown, hts, hrt, hlocks, hK, hA, hZ⟩ := id F
  obtain ⟨H, hH⟩ : ∃ H, H = s.heap := ⟨_, rfl⟩
  obtain ⟨locs, hLo⟩ : ∃ q : List Loc, q = [] := ⟨_, rfl⟩
  refine (?_ : W p l e rm_X7_isIn s m _ below meth c s.heap [] 0 0 _ _)
  rw [← hH, ← hLo]
  rw [← hH] at hP
  have hS : va_S A s.heap H locs := by rw [hH, hLo]; exact hS
  refine lv_iload_n hx hb dX7_isIn_0 rfl (lv_at hl 0 rfl) ?_
  refine lv_iload_n hx hb dX7_isIn_1 rfl (lv_at hl 1 rfl) ?_
  refine lv_ishr hx hb dX7_isIn_2 ?_
  refine lv_iconst (v := 1) hx hb dX7_isIn_3 (by decide) ?_
  refine lv_iand hx hb dX7_isIn_4 ?_
  refine lv_iconst (v := 1) hx hb dX7_isIn_5 (by decide) ?_
  refine lv_icmp_ne (tgt := 13) hx hb dX7_isIn_6 (by decide) (fun c1 => ?_) (fun c1 => ?_)
  · replace hf := (if_neg c1).symm.trans hf
    refine lv_iconst (v := 0) hx hb dX7_isIn_13 (by decide) ?_
    replace hf : (some 0 : Option (Int32)) = some rr := hf
    cases hf
    exact ret_z F rfl hP hS dX7_isIn_14
  · replace hf := (if_pos c1).symm.trans hf
    refine lv_iconst (v := 1) hx hb dX7_isIn_9 (by decide) ?_
    refine lv_goto (tgt := 14) hx hb dX7_isIn_10 (by decide) ?_
    replace hf : (some 1 : Option (Int32)) = some rr := hf
    cases hf
    exact ret_z F rfl hP hS dX7_isIn_14

/-! X7_letter -/
def rm_X7_letter : Room := { frames := 1, cells := 0, slots := 0, locals := 22 }
theorem in_X7_letter_X7 : ∀ w ∈ u_ws RX7 TX7 35, w ∈ wsX7_letter := fun _ h => List.mem_cons_of_mem _ (List.mem_append_right _ (h))
theorem nd_X7_letter : yX7_letter.cls = RX7 ∧ yX7_letter.cls ≠ "java/lang/invoke/MethodHandle" ∧ yX7_letter.cls ≠ "java/lang/invoke/VarHandle" ∧ (parseMethodDescriptor yX7_letter.desc).map (fun d => d.parameters.length) = some 1 := by decide +kernel
def f_X7_letter (t_pageLength : Int32) (t_page : Nat → Int32) (x1 : Int32) : Option (Int32 × Int32 × (Nat → Int32)) := (f_X7_within x1 32 126).bind (fun v1 => (if v1 = 0 then some ((-102), t_pageLength, t_page) else (if t_pageLength = 25 then some ((-104), t_pageLength, t_page) else (wr t_page 25 t_pageLength (vp_nar .byte (x1).toInt8.toInt32)).bind (fun g5 => some ((t_pageLength + 1), (t_pageLength + 1), g5)))))
set_option maxHeartbeats 4000000 in
set_option maxRecDepth 100000 in
theorem k_X7_letter (l : Launch) {D : va_G} {cI cB : ClassId} {kK kV : Nat → Nat} (ad_t : Nat → Nat) (t_wills : Int32) (t_heirs : Int32) (t_kindOf : Nat → Int32) (t_worthOf : Nat → Int32) (t_thingOf : Nat → Int32) (t_changesOf : Nat → Int32) (t_changes : Int32) (t_heard : Int32) (t_heardHeir : Nat → Int32) (t_heardOne : Nat → Int32) (t_heardTwo : Nat → Int32) (t_heardMore : Nat → Int32) (t_pageLength : Int32) (t_page : Nat → Int32) (t_says : Nat → Int32) (t_dealt : Nat → Int32) (t_farOf : Nat → Int32) (t_endMany : Int32) (t_endMost : Int32) (t_endLeast : Int32) (t_endFew : Int32) (t_seedNow : Int64) (t_saved : Nat → Int32) (t_isKept : Int32) (t_keptWill : Int32) (t_keptChanges : Int32) (t_keptHeard : Int32) (t_keptWorth : Nat → Int32) (t_keptThing : Nat → Int32) (t_keptChangesOf : Nat → Int32) (t_keptHeir : Nat → Int32) (t_keptOne : Nat → Int32) (t_keptTwo : Nat → Int32) (t_keptMore : Nat → Int32) (t_h : Int64) (x1 : Int32) {rr : Int32} {g_t_pageLength : Int32} {g_t_page : Nat → Int32} (hf : f_X7_letter t_pageLength t_page x1 = some (rr, g_t_pageLength, g_t_page)) : Ct l yX7_letter wsX7_letter rm_X7_letter D cI cB kK kV [.ref (ad_t 0), .int x1] (w_X7 cI cB ad_t t_wills t_heirs t_kindOf t_worthOf t_thingOf t_changesOf t_changes t_heard t_heardHeir t_heardOne t_heardTwo t_heardMore t_pageLength t_page t_says t_dealt t_farOf t_endMany t_endMost t_endLeast t_endFew t_seedNow t_saved t_isKept t_keptWill t_keptChanges t_keptHeard t_keptWorth t_keptThing t_keptChangesOf t_keptHeir t_keptOne t_keptTwo t_keptMore t_h) (w_X7 cI cB ad_t t_wills t_heirs t_kindOf t_worthOf t_thingOf t_changesOf t_changes t_heard t_heardHeir t_heardOne t_heardTwo t_heardMore g_t_pageLength g_t_page t_says t_dealt t_farOf t_endMany t_endMost t_endLeast t_endFew t_seedNow t_saved t_isKept t_keptWill t_keptChanges t_keptHeard t_keptWorth t_keptThing t_keptChangesOf t_keptHeir t_keptOne t_keptTwo t_keptMore t_h) (some (.int rr)) := by
  refine Ct.of (cc := cX7_letter) (maxL := 2) (ret := (some .int)) (by decide) rfl (Nat.le_of_ble_eq_true rfl) rfl ?_
  intro p e s m below meth c A ls F hP hD hS hl
  have hl : lv_has ls 2 [(0, .ref (ad_t 0)), (1, .int x1)] := hl
  obtain ⟨hx, hb, hml, hown, hts, hrt, hlocks, hK, hA, hZ⟩ := id F
  obtain ⟨H, hH⟩ : ∃ H, H = s.heap := ⟨_, rfl⟩
  obtain ⟨locs, hLo⟩ : ∃ q : List Loc, q = [] := ⟨_, rfl⟩
  refine (?_ : W p l e rm_X7_letter s m _ below meth c s.heap [] 0 0 _ _)
  rw [← hH, ← hLo]
  rw [← hH] at hP
  have hS : va_S A s.heap H locs := by rw [hH, hLo]; exact hS
  refine lv_iload_n hx hb dX7_letter_0 rfl (lv_at hl 1 rfl) ?_
  refine lv_bipush (v := 32) hx hb dX7_letter_1 (by decide) ?_
  refine lv_bipush (v := 126) hx hb dX7_letter_3 (by decide) ?_
  obtain ⟨v1, e2, hf⟩ := bnd hf
  refine cS F hP hD hS (k_X7_within l  x1 32 126 e2) gX7_letter_X7_within rfl ⟨rfl, rfl⟩ nd_X7_within ⟨Nat.le_of_ble_eq_true rfl, Nat.le_of_ble_eq_true rfl⟩ rfl hl.1 rfl (Nat.le_of_ble_eq_true rfl) dX7_letter_5 (pmE (w_X7 cI cB ad_t t_wills t_heirs t_kindOf t_worthOf t_thingOf t_changesOf t_changes t_heard t_heardHeir t_heardOne t_heardTwo t_heardMore t_pageLength t_page t_says t_dealt t_farOf t_endMany t_endMost t_endLeast t_endFew t_seedNow t_saved t_isKept t_keptWill t_keptChanges t_keptHeard t_keptWorth t_keptThing t_keptChangesOf t_keptHeir t_keptOne t_keptTwo t_keptMore t_h)) (pmE (w_X7 cI cB ad_t t_wills t_heirs t_kindOf t_worthOf t_thingOf t_changesOf t_changes t_heard t_heardHeir t_heardOne t_heardTwo t_heardMore t_pageLength t_page t_says t_dealt t_farOf t_endMany t_endMost t_endLeast t_endFew t_seedNow t_saved t_isKept t_keptWill t_keptChanges t_keptHeard t_keptWorth t_keptThing t_keptChangesOf t_keptHeir t_keptOne t_keptTwo t_keptMore t_h)) (fun H locs hP hD hS => ?_)
  refine lv_if_ne (tgt := 14) hx hb dX7_letter_8 (by decide) (fun c3 => ?_) (fun c3 => ?_)
  · replace hf := (if_neg c3).symm.trans hf
    refine lv_aload_n hx hb dX7_letter_14 rfl (lv_at hl 0 rfl) ?_
    refine gf F hP in_X7_letter_X7 0 rfl rfl 12 (by decide) 1 rfl rfl dX7_letter_15 ?_
    refine lv_bipush (v := 25) hx hb dX7_letter_18 (by decide) ?_
    refine lv_icmp_ne (tgt := 26) hx hb dX7_letter_20 (by decide) (fun c4 => ?_) (fun c4 => ?_)
    · replace hf := (if_neg c4).symm.trans hf
      refine lv_aload_n hx hb dX7_letter_26 rfl (lv_at hl 0 rfl) ?_
      refine gf F hP in_X7_letter_X7 0 rfl rfl 13 (by decide) 2 rfl rfl dX7_letter_27 ?_
      refine lv_aload_n hx hb dX7_letter_30 rfl (lv_at hl 0 rfl) ?_
      refine gf F hP in_X7_letter_X7 0 rfl rfl 12 (by decide) 1 rfl rfl dX7_letter_31 ?_
      refine lv_iload_n hx hb dX7_letter_34 rfl (lv_at hl 1 rfl) ?_
      refine lv_i2b hx hb dX7_letter_35 rfl ?_
      obtain ⟨g5, eg5, hf⟩ := bnd hf
      refine bst F hP hD hS 9 rfl eg5 dX7_letter_36 (w_X7 cI cB ad_t t_wills t_heirs t_kindOf t_worthOf t_thingOf t_changesOf t_changes t_heard t_heardHeir t_heardOne t_heardTwo t_heardMore t_pageLength g5 t_says t_dealt t_farOf t_endMany t_endMost t_endLeast t_endFew t_seedNow t_saved t_isKept t_keptWill t_keptChanges t_keptHeard t_keptWorth t_keptThing t_keptChangesOf t_keptHeir t_keptOne t_keptTwo t_keptMore t_h) rfl (fun H locs hP hD hS => ?_)
      refine lv_aload_n hx hb dX7_letter_37 rfl (lv_at hl 0 rfl) ?_
      refine lv_dup hx hb dX7_letter_38 rfl ?_
      refine gf F hP in_X7_letter_X7 0 rfl rfl 12 (by decide) 1 rfl rfl dX7_letter_39 ?_
      refine lv_iconst (v := 1) hx hb dX7_letter_42 (by decide) ?_
      refine lv_iadd hx hb dX7_letter_43 ?_
      refine pf F hP hD hS in_X7_letter_X7 tyX7 tyX7_ok nmX7 0 rfl rfl 12 (by decide) 1 rfl rfl rfl rfl (Nat.le_of_ble_eq_true rfl) dX7_letter_44 (w_X7 cI cB ad_t t_wills t_heirs t_kindOf t_worthOf t_thingOf t_changesOf t_changes t_heard t_heardHeir t_heardOne t_heardTwo t_heardMore (t_pageLength + 1) g5 t_says t_dealt t_farOf t_endMany t_endMost t_endLeast t_endFew t_seedNow t_saved t_isKept t_keptWill t_keptChanges t_keptHeard t_keptWorth t_keptThing t_keptChangesOf t_keptHeir t_keptOne t_keptTwo t_keptMore t_h) rfl (fun H locs hP hD hS => ?_)
      refine lv_aload_n hx hb dX7_letter_47 rfl (lv_at hl 0 rfl) ?_
      refine gf F hP in_X7_letter_X7 0 rfl rfl 12 (by decide) 1 rfl rfl dX7_letter_48 ?_
      replace hf : (some ((t_pageLength + 1), (t_pageLength + 1), g5) : Option (Int32 × Int32 × (Nat → Int32))) = some (rr, g_t_pageLength, g_t_page) := hf
      cases hf
      exact ret_i F hP hS dX7_letter_51
    · replace hf := (if_pos c4).symm.trans hf
      refine lv_bipush (v := (-104)) hx hb dX7_letter_23 (by decide) ?_
      replace hf : (some ((-104), t_pageLength, t_page) : Option (Int32 × Int32 × (Nat → Int32))) = some (rr, g_t_pageLength, g_t_page) := hf
      cases hf
      exact ret_i F hP hS dX7_letter_25
  · replace hf := (if_pos c3).symm.trans hf
    refine lv_bipush (v := (-102)) hx hb dX7_letter_11 (by decide) ?_
    replace hf : (some ((-102), t_pageLength, t_page) : Option (Int32 × Int32 × (Nat → Int32))) = some (rr, g_t_pageLength, g_t_page) := hf
    cases hf
    exact ret_i F hP hS dX7_letter_13

/-! X7_blank -/
def rm_X7_blank : Room := { frames := 0, cells := 0, slots := 0, locals := 0 }
theorem in_X7_blank_X7 : ∀ w ∈ u_ws RX7 TX7 35, w ∈ wsX7_blank := fun _ h => List.mem_cons_of_mem _ (List.mem_append_right _ (h))
theorem nd_X7_blank : yX7_blank.cls = RX7 ∧ yX7_blank.cls ≠ "java/lang/invoke/MethodHandle" ∧ yX7_blank.cls ≠ "java/lang/invoke/VarHandle" ∧ (parseMethodDescriptor yX7_blank.desc).map (fun d => d.parameters.length) = some 0 := by decide +kernel
def f_X7_blank (t_pageLength : Int32)  : Option (Int32 × Int32) := some (t_pageLength, 0)
set_option maxHeartbeats 4000000 in
set_option maxRecDepth 100000 in
theorem k_X7_blank (l : Launch) {D : va_G} {cI cB : ClassId} {kK kV : Nat → Nat} (ad_t : Nat → Nat) (t_wills : Int32) (t_heirs : Int32) (t_kindOf : Nat → Int32) (t_worthOf : Nat → Int32) (t_thingOf : Nat → Int32) (t_changesOf : Nat → Int32) (t_changes : Int32) (t_heard : Int32) (t_heardHeir : Nat → Int32) (t_heardOne : Nat → Int32) (t_heardTwo : Nat → Int32) (t_heardMore : Nat → Int32) (t_pageLength : Int32) (t_page : Nat → Int32) (t_says : Nat → Int32) (t_dealt : Nat → Int32) (t_farOf : Nat → Int32) (t_endMany : Int32) (t_endMost : Int32) (t_endLeast : Int32) (t_endFew : Int32) (t_seedNow : Int64) (t_saved : Nat → Int32) (t_isKept : Int32) (t_keptWill : Int32) (t_keptChanges : Int32) (t_keptHeard : Int32) (t_keptWorth : Nat → Int32) (t_keptThing : Nat → Int32) (t_keptChangesOf : Nat → Int32) (t_keptHeir : Nat → Int32) (t_keptOne : Nat → Int32) (t_keptTwo : Nat → Int32) (t_keptMore : Nat → Int32) (t_h : Int64)  {rr : Int32} {g_t_pageLength : Int32} (hf : f_X7_blank t_pageLength = some (rr, g_t_pageLength)) : Ct l yX7_blank wsX7_blank rm_X7_blank D cI cB kK kV [.ref (ad_t 0)] (w_X7 cI cB ad_t t_wills t_heirs t_kindOf t_worthOf t_thingOf t_changesOf t_changes t_heard t_heardHeir t_heardOne t_heardTwo t_heardMore t_pageLength t_page t_says t_dealt t_farOf t_endMany t_endMost t_endLeast t_endFew t_seedNow t_saved t_isKept t_keptWill t_keptChanges t_keptHeard t_keptWorth t_keptThing t_keptChangesOf t_keptHeir t_keptOne t_keptTwo t_keptMore t_h) (w_X7 cI cB ad_t t_wills t_heirs t_kindOf t_worthOf t_thingOf t_changesOf t_changes t_heard t_heardHeir t_heardOne t_heardTwo t_heardMore g_t_pageLength t_page t_says t_dealt t_farOf t_endMany t_endMost t_endLeast t_endFew t_seedNow t_saved t_isKept t_keptWill t_keptChanges t_keptHeard t_keptWorth t_keptThing t_keptChangesOf t_keptHeir t_keptOne t_keptTwo t_keptMore t_h) (some (.int rr)) := by
  refine Ct.of (cc := cX7_blank) (maxL := 2) (ret := (some .int)) (by decide) rfl (Nat.le_of_ble_eq_true rfl) rfl ?_
  intro p e s m below meth c A ls F hP hD hS hl
  have hl : lv_has ls 2 [(0, .ref (ad_t 0))] := hl
  obtain ⟨hx, hb, hml, hown, hts, hrt, hlocks, hK, hA, hZ⟩ := id F
  obtain ⟨H, hH⟩ : ∃ H, H = s.heap := ⟨_, rfl⟩
  obtain ⟨locs, hLo⟩ : ∃ q : List Loc, q = [] := ⟨_, rfl⟩
  refine (?_ : W p l e rm_X7_blank s m _ below meth c s.heap [] 0 0 _ _)
  rw [← hH, ← hLo]
  rw [← hH] at hP
  have hS : va_S A s.heap H locs := by rw [hH, hLo]; exact hS
  refine lv_aload_n hx hb dX7_blank_0 rfl (lv_at hl 0 rfl) ?_
  refine gf F hP in_X7_blank_X7 0 rfl rfl 12 (by decide) 1 rfl rfl dX7_blank_1 ?_
  refine lv_istore_n (lv' := [(1, .int t_pageLength), (0, .ref (ad_t 0))]) hx hb dX7_blank_4 rfl hl (by decide) rfl (fun ls hl => ?_)
  refine lv_aload_n hx hb dX7_blank_5 rfl (lv_at hl 1 rfl) ?_
  refine lv_iconst (v := 0) hx hb dX7_blank_6 (by decide) ?_
  refine pf F hP hD hS in_X7_blank_X7 tyX7 tyX7_ok nmX7 0 rfl rfl 12 (by decide) 1 rfl rfl rfl rfl (Nat.le_of_ble_eq_true rfl) dX7_blank_7 (w_X7 cI cB ad_t t_wills t_heirs t_kindOf t_worthOf t_thingOf t_changesOf t_changes t_heard t_heardHeir t_heardOne t_heardTwo t_heardMore 0 t_page t_says t_dealt t_farOf t_endMany t_endMost t_endLeast t_endFew t_seedNow t_saved t_isKept t_keptWill t_keptChanges t_keptHeard t_keptWorth t_keptThing t_keptChangesOf t_keptHeir t_keptOne t_keptTwo t_keptMore t_h) rfl (fun H locs hP hD hS => ?_)
  refine lv_iload_n hx hb dX7_blank_10 rfl (lv_at hl 0 rfl) ?_
  replace hf : (some (t_pageLength, 0) : Option (Int32 × Int32)) = some (rr, g_t_pageLength) := hf
  cases hf
  exact ret_i F hP hS dX7_blank_11

/-! X7_kindBy -/
def rm_X7_kindBy : Room := { frames := 0, cells := 0, slots := 0, locals := 0 }
theorem nd_X7_kindBy : yX7_kindBy.cls ≠ "java/lang/invoke/MethodHandle" ∧ yX7_kindBy.cls ≠ "java/lang/invoke/VarHandle" ∧ (parseMethodDescriptor yX7_kindBy.desc).map (fun d => d.parameters.length) = some 1 := by decide +kernel
def f_X7_kindBy  (x0 : Int32) : Option (Int32) := (if x0 = 97 then some 4 else (if x0 = 104 then some 0 else (if x0 = 108 then some 3 else (if x0 = 112 then some 2 else (if x0 = 115 then some 1 else some (-1))))))
set_option maxHeartbeats 4000000 in
set_option maxRecDepth 100000 in
theorem k_X7_kindBy (l : Launch) {D : va_G} {cI cB : ClassId} {kK kV : Nat → Nat}   (x0 : Int32) {rr : Int32}  (hf : f_X7_kindBy x0 = some rr) : Ct l yX7_kindBy wsX7_kindBy rm_X7_kindBy D cI cB kK kV [.int x0] ([] : va_W) ([] : va_W) (some (.int rr)) := by
  refine Ct.of (cc := cX7_kindBy) (maxL := 1) (ret := (some .int)) (by decide) rfl (Nat.le_of_ble_eq_true rfl) rfl ?_
  intro p e s m below meth c A ls F hP hD hS hl
  have hl : lv_has ls 1 [(0, .int x0)] := hl
  obtain ⟨hx, hb, hml, hown, hts, hrt, hlocks, hK, hA, hZ⟩ := id F
  obtain ⟨H, hH⟩ : ∃ H, H = s.heap := ⟨_, rfl⟩
  obtain ⟨locs, hLo⟩ : ∃ q : List Loc, q = [] := ⟨_, rfl⟩
  refine (?_ : W p l e rm_X7_kindBy s m _ below meth c s.heap [] 0 0 _ _)
  rw [← hH, ← hLo]
  rw [← hH] at hP
  have hS : va_S A s.heap H locs := by rw [hH, hLo]; exact hS
  refine lv_iload_n hx hb dX7_kindBy_0 rfl (lv_at hl 0 rfl) ?_
  by_cases c1 : x0 = 97
  · replace hf := (if_pos c1).symm.trans hf
    refine lv_lookup (off := 59) (tgt := 60) hx hb dX7_kindBy_1 (by decide) (by rw [c1]; decide) (by decide) ?_
    refine lv_iconst (v := 4) hx hb dX7_kindBy_60 (by decide) ?_
    replace hf : (some 4 : Option (Int32)) = some rr := hf
    cases hf
    exact ret_i F hP hS dX7_kindBy_61
  replace hf := (if_neg c1).symm.trans hf
  by_cases c2 : x0 = 104
  · replace hf := (if_pos c2).symm.trans hf
    refine lv_lookup (off := 51) (tgt := 52) hx hb dX7_kindBy_1 (by decide) (by rw [c2]; decide) (by decide) ?_
    refine lv_iconst (v := 0) hx hb dX7_kindBy_52 (by decide) ?_
    replace hf : (some 0 : Option (Int32)) = some rr := hf
    cases hf
    exact ret_i F hP hS dX7_kindBy_53
  replace hf := (if_neg c2).symm.trans hf
  by_cases c3 : x0 = 108
  · replace hf := (if_pos c3).symm.trans hf
    refine lv_lookup (off := 57) (tgt := 58) hx hb dX7_kindBy_1 (by decide) (by rw [c3]; decide) (by decide) ?_
    refine lv_iconst (v := 3) hx hb dX7_kindBy_58 (by decide) ?_
    replace hf : (some 3 : Option (Int32)) = some rr := hf
    cases hf
    exact ret_i F hP hS dX7_kindBy_59
  replace hf := (if_neg c3).symm.trans hf
  by_cases c4 : x0 = 112
  · replace hf := (if_pos c4).symm.trans hf
    refine lv_lookup (off := 55) (tgt := 56) hx hb dX7_kindBy_1 (by decide) (by rw [c4]; decide) (by decide) ?_
    refine lv_iconst (v := 2) hx hb dX7_kindBy_56 (by decide) ?_
    replace hf : (some 2 : Option (Int32)) = some rr := hf
    cases hf
    exact ret_i F hP hS dX7_kindBy_57
  replace hf := (if_neg c4).symm.trans hf
  by_cases c5 : x0 = 115
  · replace hf := (if_pos c5).symm.trans hf
    refine lv_lookup (off := 53) (tgt := 54) hx hb dX7_kindBy_1 (by decide) (by rw [c5]; decide) (by decide) ?_
    refine lv_iconst (v := 1) hx hb dX7_kindBy_54 (by decide) ?_
    replace hf : (some 1 : Option (Int32)) = some rr := hf
    cases hf
    exact ret_i F hP hS dX7_kindBy_55
  replace hf := (if_neg c5).symm.trans hf
  refine lv_lookup (off := 61) (tgt := 62) hx hb dX7_kindBy_1 (by decide) ((lv_osw c1 (by decide)).trans ((lv_osw c2 (by decide)).trans ((lv_osw c3 (by decide)).trans ((lv_osw c4 (by decide)).trans ((lv_osw c5 (by decide)).trans (rfl)))))) (by decide) ?_
  refine lv_iconst (v := (-1)) hx hb dX7_kindBy_62 (by decide) ?_
  replace hf : (some (-1) : Option (Int32)) = some rr := hf
  cases hf
  exact ret_i F hP hS dX7_kindBy_63

/-! X7_isGood -/
def rm_X7_isGood : Room := { frames := 1, cells := 0, slots := 0, locals := 22 }
theorem in_X7_isGood_X7 : ∀ w ∈ u_ws RX7 TX7 35, w ∈ wsX7_isGood := fun _ h => List.mem_cons_of_mem _ (List.mem_append_right _ (h))
theorem nd_X7_isGood : yX7_isGood.cls = RX7 ∧ yX7_isGood.cls ≠ "java/lang/invoke/MethodHandle" ∧ yX7_isGood.cls ≠ "java/lang/invoke/VarHandle" ∧ (parseMethodDescriptor yX7_isGood.desc).map (fun d => d.parameters.length) = some 1 := by decide +kernel
def f_X7_isGood (t_page : Nat → Int32) (x1 : Int32) : Option (Int32) := (rd t_page 25 x1).bind (fun v1 => (if x1 < 23 then (if (x1 - x1 / 6 * 6) = 0 then (f_X7_kindBy v1).bind (fun v9 => (if v9 = (-1) then some 0 else some 1)) else (if (x1 - x1 / 6 * 6) = 5 then (if v1 = 44 then some 1 else some 0) else (f_X7_within (v1 - 48) 0 9).bind (fun v5 => (bz v5).bind (fun b7 => some b7)))) else some 0))
set_option maxHeartbeats 4000000 in
set_option maxRecDepth 100000 in
theorem k_X7_isGood (l : Launch) {D : va_G} {cI cB : ClassId} {kK kV : Nat → Nat} (ad_t : Nat → Nat) (t_wills : Int32) (t_heirs : Int32) (t_kindOf : Nat → Int32) (t_worthOf : Nat → Int32) (t_thingOf : Nat → Int32) (t_changesOf : Nat → Int32) (t_changes : Int32) (t_heard : Int32) (t_heardHeir : Nat → Int32) (t_heardOne : Nat → Int32) (t_heardTwo : Nat → Int32) (t_heardMore : Nat → Int32) (t_pageLength : Int32) (t_page : Nat → Int32) (t_says : Nat → Int32) (t_dealt : Nat → Int32) (t_farOf : Nat → Int32) (t_endMany : Int32) (t_endMost : Int32) (t_endLeast : Int32) (t_endFew : Int32) (t_seedNow : Int64) (t_saved : Nat → Int32) (t_isKept : Int32) (t_keptWill : Int32) (t_keptChanges : Int32) (t_keptHeard : Int32) (t_keptWorth : Nat → Int32) (t_keptThing : Nat → Int32) (t_keptChangesOf : Nat → Int32) (t_keptHeir : Nat → Int32) (t_keptOne : Nat → Int32) (t_keptTwo : Nat → Int32) (t_keptMore : Nat → Int32) (t_h : Int64) (x1 : Int32) {rr : Int32}  (hf : f_X7_isGood t_page x1 = some rr) : Ct l yX7_isGood wsX7_isGood rm_X7_isGood D cI cB kK kV [.ref (ad_t 0), .int x1] (w_X7 cI cB ad_t t_wills t_heirs t_kindOf t_worthOf t_thingOf t_changesOf t_changes t_heard t_heardHeir t_heardOne t_heardTwo t_heardMore t_pageLength t_page t_says t_dealt t_farOf t_endMany t_endMost t_endLeast t_endFew t_seedNow t_saved t_isKept t_keptWill t_keptChanges t_keptHeard t_keptWorth t_keptThing t_keptChangesOf t_keptHeir t_keptOne t_keptTwo t_keptMore t_h) (w_X7 cI cB ad_t t_wills t_heirs t_kindOf t_worthOf t_thingOf t_changesOf t_changes t_heard t_heardHeir t_heardOne t_heardTwo t_heardMore t_pageLength t_page t_says t_dealt t_farOf t_endMany t_endMost t_endLeast t_endFew t_seedNow t_saved t_isKept t_keptWill t_keptChanges t_keptHeard t_keptWorth t_keptThing t_keptChangesOf t_keptHeir t_keptOne t_keptTwo t_keptMore t_h) (some (.int rr)) := by
  refine Ct.of (cc := cX7_isGood) (maxL := 4) (ret := (some .boolean)) (by decide) rfl (Nat.le_of_ble_eq_true rfl) rfl ?_
  intro p e s m below meth c A ls F hP hD hS hl
  have hl : lv_has ls 4 [(0, .ref (ad_t 0)), (1, .int x1)] := hl
  obtain ⟨hx, hb, hml, hown, hts, hrt, hlocks, hK, hA, hZ⟩ := id F
  obtain ⟨H, hH⟩ : ∃ H, H = s.heap := ⟨_, rfl⟩
  obtain ⟨locs, hLo⟩ : ∃ q : List Loc, q = [] := ⟨_, rfl⟩
  refine (?_ : W p l e rm_X7_isGood s m _ below meth c s.heap [] 0 0 _ _)
  rw [← hH, ← hLo]
  rw [← hH] at hP
  have hS : va_S A s.heap H locs := by rw [hH, hLo]; exact hS
  refine lv_aload_n hx hb dX7_isGood_0 rfl (lv_at hl 0 rfl) ?_
  refine gf F hP in_X7_isGood_X7 0 rfl rfl 13 (by decide) 1 rfl rfl dX7_isGood_1 ?_
  refine lv_iload_n hx hb dX7_isGood_4 rfl (lv_at hl 1 rfl) ?_
  obtain ⟨v1, ev1, hf⟩ := bnd hf
  refine bld F hP 9 rfl ev1 dX7_isGood_5 ?_
  refine lv_istore_n (lv' := [(2, .int v1), (0, .ref (ad_t 0)), (1, .int x1)]) hx hb dX7_isGood_6 rfl hl (by decide) rfl (fun ls hl => ?_)
  refine lv_iload_n hx hb dX7_isGood_7 rfl (lv_at hl 2 rfl) ?_
  refine lv_bipush (v := 6) hx hb dX7_isGood_8 (by decide) ?_
  refine lv_irem hx hb dX7_isGood_10 (by decide) ?_
  refine lv_istore_n (lv' := [(3, .int (x1 - x1 / 6 * 6)), (2, .int v1), (0, .ref (ad_t 0)), (1, .int x1)]) hx hb dX7_isGood_11 rfl hl (by decide) rfl (fun ls hl => ?_)
  refine lv_iload_n hx hb dX7_isGood_12 rfl (lv_at hl 3 rfl) ?_
  refine lv_bipush (v := 23) hx hb dX7_isGood_13 (by decide) ?_
  refine lv_icmp_lt (tgt := 20) hx hb dX7_isGood_15 (by decide) (fun c2 => ?_) (fun c2 => ?_)
  · replace hf := (if_pos c2).symm.trans hf
    refine lv_iload_n hx hb dX7_isGood_20 rfl (lv_at hl 0 rfl) ?_
    refine lv_if_ne (tgt := 40) hx hb dX7_isGood_21 (by decide) (fun c3 => ?_) (fun c3 => ?_)
    · replace hf := (if_neg c3).symm.trans hf
      refine lv_iload_n hx hb dX7_isGood_40 rfl (lv_at hl 0 rfl) ?_
      refine lv_iconst (v := 5) hx hb dX7_isGood_41 (by decide) ?_
      refine lv_icmp_ne (tgt := 59) hx hb dX7_isGood_42 (by decide) (fun c4 => ?_) (fun c4 => ?_)
      · replace hf := (if_neg c4).symm.trans hf
        refine lv_iload_n hx hb dX7_isGood_59 rfl (lv_at hl 1 rfl) ?_
        refine lv_bipush (v := 48) hx hb dX7_isGood_60 (by decide) ?_
        refine lv_isub hx hb dX7_isGood_62 ?_
        refine lv_iconst (v := 0) hx hb dX7_isGood_63 (by decide) ?_
        refine lv_bipush (v := 9) hx hb dX7_isGood_64 (by decide) ?_
        obtain ⟨v5, e6, hf⟩ := bnd hf
        refine cS F hP hD hS (k_X7_within l  (v1 - 48) 0 9 e6) gX7_isGood_X7_within rfl ⟨rfl, rfl⟩ nd_X7_within ⟨Nat.le_of_ble_eq_true rfl, Nat.le_of_ble_eq_true rfl⟩ rfl hl.1 rfl (Nat.le_of_ble_eq_true rfl) dX7_isGood_66 (pmE (w_X7 cI cB ad_t t_wills t_heirs t_kindOf t_worthOf t_thingOf t_changesOf t_changes t_heard t_heardHeir t_heardOne t_heardTwo t_heardMore t_pageLength t_page t_says t_dealt t_farOf t_endMany t_endMost t_endLeast t_endFew t_seedNow t_saved t_isKept t_keptWill t_keptChanges t_keptHeard t_keptWorth t_keptThing t_keptChangesOf t_keptHeir t_keptOne t_keptTwo t_keptMore t_h)) (pmE (w_X7 cI cB ad_t t_wills t_heirs t_kindOf t_worthOf t_thingOf t_changesOf t_changes t_heard t_heardHeir t_heardOne t_heardTwo t_heardMore t_pageLength t_page t_says t_dealt t_farOf t_endMany t_endMost t_endLeast t_endFew t_seedNow t_saved t_isKept t_keptWill t_keptChanges t_keptHeard t_keptWorth t_keptThing t_keptChangesOf t_keptHeir t_keptOne t_keptTwo t_keptMore t_h)) (fun H locs hP hD hS => ?_)
        obtain ⟨b7, eb7, hf⟩ := bnd hf
        obtain ⟨nb7, qb7⟩ := bz_some eb7
        rw [qb7] at nb7
        refine teqi qb7 ?_
        replace hf : (some b7 : Option (Int32)) = some rr := hf
        cases hf
        exact ret_z F nb7 hP hS dX7_isGood_69
      · replace hf := (if_pos c4).symm.trans hf
        refine lv_iload_n hx hb dX7_isGood_45 rfl (lv_at hl 1 rfl) ?_
        refine lv_bipush (v := 44) hx hb dX7_isGood_46 (by decide) ?_
        refine lv_icmp_ne (tgt := 55) hx hb dX7_isGood_48 (by decide) (fun c8 => ?_) (fun c8 => ?_)
        · replace hf := (if_neg c8).symm.trans hf
          refine lv_iconst (v := 0) hx hb dX7_isGood_55 (by decide) ?_
          refine lv_goto (tgt := 69) hx hb dX7_isGood_56 (by decide) ?_
          replace hf : (some 0 : Option (Int32)) = some rr := hf
          cases hf
          exact ret_z F rfl hP hS dX7_isGood_69
        · replace hf := (if_pos c8).symm.trans hf
          refine lv_iconst (v := 1) hx hb dX7_isGood_51 (by decide) ?_
          refine lv_goto (tgt := 69) hx hb dX7_isGood_52 (by decide) ?_
          replace hf : (some 1 : Option (Int32)) = some rr := hf
          cases hf
          exact ret_z F rfl hP hS dX7_isGood_69
    · replace hf := (if_pos c3).symm.trans hf
      refine lv_iload_n hx hb dX7_isGood_24 rfl (lv_at hl 1 rfl) ?_
      obtain ⟨v9, e10, hf⟩ := bnd hf
      refine cS F hP hD hS (k_X7_kindBy l  v1 e10) gX7_isGood_X7_kindBy rfl ⟨rfl, rfl⟩ nd_X7_kindBy ⟨Nat.le_of_ble_eq_true rfl, Nat.le_of_ble_eq_true rfl⟩ rfl hl.1 rfl (Nat.le_of_ble_eq_true rfl) dX7_isGood_25 (pmE (w_X7 cI cB ad_t t_wills t_heirs t_kindOf t_worthOf t_thingOf t_changesOf t_changes t_heard t_heardHeir t_heardOne t_heardTwo t_heardMore t_pageLength t_page t_says t_dealt t_farOf t_endMany t_endMost t_endLeast t_endFew t_seedNow t_saved t_isKept t_keptWill t_keptChanges t_keptHeard t_keptWorth t_keptThing t_keptChangesOf t_keptHeir t_keptOne t_keptTwo t_keptMore t_h)) (pmE (w_X7 cI cB ad_t t_wills t_heirs t_kindOf t_worthOf t_thingOf t_changesOf t_changes t_heard t_heardHeir t_heardOne t_heardTwo t_heardMore t_pageLength t_page t_says t_dealt t_farOf t_endMany t_endMost t_endLeast t_endFew t_seedNow t_saved t_isKept t_keptWill t_keptChanges t_keptHeard t_keptWorth t_keptThing t_keptChangesOf t_keptHeir t_keptOne t_keptTwo t_keptMore t_h)) (fun H locs hP hD hS => ?_)
      refine lv_iconst (v := (-1)) hx hb dX7_isGood_28 (by decide) ?_
      refine lv_icmp_eq (tgt := 36) hx hb dX7_isGood_29 (by decide) (fun c11 => ?_) (fun c11 => ?_)
      · replace hf := (if_pos c11).symm.trans hf
        refine lv_iconst (v := 0) hx hb dX7_isGood_36 (by decide) ?_
        refine lv_goto (tgt := 69) hx hb dX7_isGood_37 (by decide) ?_
        replace hf : (some 0 : Option (Int32)) = some rr := hf
        cases hf
        exact ret_z F rfl hP hS dX7_isGood_69
      · replace hf := (if_neg c11).symm.trans hf
        refine lv_iconst (v := 1) hx hb dX7_isGood_32 (by decide) ?_
        refine lv_goto (tgt := 69) hx hb dX7_isGood_33 (by decide) ?_
        replace hf : (some 1 : Option (Int32)) = some rr := hf
        cases hf
        exact ret_z F rfl hP hS dX7_isGood_69
  · replace hf := (if_neg c2).symm.trans hf
    refine lv_iconst (v := 0) hx hb dX7_isGood_18 (by decide) ?_
    replace hf : (some 0 : Option (Int32)) = some rr := hf
    cases hf
    exact ret_z F rfl hP hS dX7_isGood_19

/-! X7_faultNow -/
def rm_X7_faultNow : Room := { frames := 2, cells := 0, slots := 0, locals := 45 }
theorem in_X7_faultNow_X7 : ∀ w ∈ u_ws RX7 TX7 35, w ∈ wsX7_faultNow := fun _ h => List.mem_cons_of_mem _ (List.mem_append_right _ (h))
theorem nd_X7_faultNow : yX7_faultNow.cls = RX7 ∧ yX7_faultNow.cls ≠ "java/lang/invoke/MethodHandle" ∧ yX7_faultNow.cls ≠ "java/lang/invoke/VarHandle" ∧ (parseMethodDescriptor yX7_faultNow.desc).map (fun d => d.parameters.length) = some 0 := by decide +kernel
def f_X7_faultNow_2 (t_pageLength : Int32) (t_page : Nat → Int32)  : Nat → Int32 → Option (Int32)
  | 0, _ => none
  | n + 1, x1 => (if t_pageLength ≤ x1 then some x1 else (f_X7_isGood t_page x1).bind (fun v2 => (if v2 = 0 then some x1 else f_X7_faultNow_2 t_pageLength t_page  n (x1 + 1))))
def f_X7_faultNow (t_pageLength : Int32) (t_page : Nat → Int32)  : Option (Int32) := f_X7_faultNow_2 t_pageLength t_page 300 0
set_option maxHeartbeats 4000000 in
set_option maxRecDepth 100000 in
theorem b_X7_faultNow_2 {p : Program} {l : Launch} {e : Env} {s : State} {m : MethodId} {args : Array Value} {below : List Frame} {meth : Method} {c : Code} {D : va_G} {cI cB : ClassId} {kK kV : Nat → Nat} {A : Nat → Prop} (F : Fx p m c s meth args cX7_faultNow 2 RX7 wsX7_faultNow (some .int) D cI cB kK kV A) {ad_t : Nat → Nat} {t_wills : Int32} {t_heirs : Int32} {t_kindOf : Nat → Int32} {t_worthOf : Nat → Int32} {t_thingOf : Nat → Int32} {t_changesOf : Nat → Int32} {t_changes : Int32} {t_heard : Int32} {t_heardHeir : Nat → Int32} {t_heardOne : Nat → Int32} {t_heardTwo : Nat → Int32} {t_heardMore : Nat → Int32} {t_pageLength : Int32} {t_page : Nat → Int32} {t_says : Nat → Int32} {t_dealt : Nat → Int32} {t_farOf : Nat → Int32} {t_endMany : Int32} {t_endMost : Int32} {t_endLeast : Int32} {t_endFew : Int32} {t_seedNow : Int64} {t_saved : Nat → Int32} {t_isKept : Int32} {t_keptWill : Int32} {t_keptChanges : Int32} {t_keptHeard : Int32} {t_keptWorth : Nat → Int32} {t_keptThing : Nat → Int32} {t_keptChangesOf : Nat → Int32} {t_keptHeir : Nat → Int32} {t_keptOne : Nat → Int32} {t_keptTwo : Nat → Int32} {t_keptMore : Nat → Int32} {t_h : Int64} {rr : Int32}  : ∀ (n : Nat), ∀ (x1 : Int32) (H : Heap) (locs : List Loc) (ls : Array Slot), va_P D vwCl (w_X7 cI cB ad_t t_wills t_heirs t_kindOf t_worthOf t_thingOf t_changesOf t_changes t_heard t_heardHeir t_heardOne t_heardTwo t_heardMore t_pageLength t_page t_says t_dealt t_farOf t_endMany t_endMost t_endLeast t_endFew t_seedNow t_saved t_isKept t_keptWill t_keptChanges t_keptHeard t_keptWorth t_keptThing t_keptChangesOf t_keptHeir t_keptOne t_keptTwo t_keptMore t_h) H → va_D A (w_X7 cI cB ad_t t_wills t_heirs t_kindOf t_worthOf t_thingOf t_changesOf t_changes t_heard t_heardHeir t_heardOne t_heardTwo t_heardMore t_pageLength t_page t_says t_dealt t_farOf t_endMany t_endMost t_endLeast t_endFew t_seedNow t_saved t_isKept t_keptWill t_keptChanges t_keptHeard t_keptWorth t_keptThing t_keptChangesOf t_keptHeir t_keptOne t_keptTwo t_keptMore t_h) → va_S A s.heap H locs → lv_has ls 2 [(0, .ref (ad_t 0)), (1, .int x1)] → f_X7_faultNow_2 t_pageLength t_page  n x1 = some rr → W p l e rm_X7_faultNow s m args below meth c H locs 0 0 (Zq D below args s A (w_X7 cI cB ad_t t_wills t_heirs t_kindOf t_worthOf t_thingOf t_changesOf t_changes t_heard t_heardHeir t_heardOne t_heardTwo t_heardMore t_pageLength t_page t_says t_dealt t_farOf t_endMany t_endMost t_endLeast t_endFew t_seedNow t_saved t_isKept t_keptWill t_keptChanges t_keptHeard t_keptWorth t_keptThing t_keptChangesOf t_keptHeir t_keptOne t_keptTwo t_keptMore t_h) (some (.int rr))) (F0 m 2 ls []) := by
  obtain ⟨hx, hb, hml, hown, hts, hrt, hlocks, hK, hA, hZ⟩ := id F
  intro n
  induction n with
  | zero =>
    intro x1 H locs ls hP hD hS hl hf
    cases hf
  | succ n ih =>
    intro x1 H locs ls hP hD hS hl hf
    refine lv_iload_n hx hb dX7_faultNow_2 rfl (lv_at hl 1 rfl) ?_
    refine lv_aload_n hx hb dX7_faultNow_3 rfl (lv_at hl 0 rfl) ?_
    refine gf F hP in_X7_faultNow_X7 0 rfl rfl 12 (by decide) 1 rfl rfl dX7_faultNow_4 ?_
    refine lv_icmp_ge (tgt := 24) hx hb dX7_faultNow_7 (by decide) (fun c1 => ?_) (fun c1 => ?_)
    · replace hf := (if_pos c1).symm.trans hf
      refine lv_iload_n hx hb dX7_faultNow_24 rfl (lv_at hl 1 rfl) ?_
      replace hf : (some x1 : Option (Int32)) = some rr := hf
      cases hf
      exact ret_i F hP hS dX7_faultNow_25
    · replace hf := (if_neg c1).symm.trans hf
      refine lv_aload_n hx hb dX7_faultNow_10 rfl (lv_at hl 0 rfl) ?_
      refine lv_iload_n hx hb dX7_faultNow_11 rfl (lv_at hl 1 rfl) ?_
      obtain ⟨v2, e3, hf⟩ := bnd hf
      refine cV F hP hD hS (k_X7_isGood l ad_t t_wills t_heirs t_kindOf t_worthOf t_thingOf t_changesOf t_changes t_heard t_heardHeir t_heardOne t_heardTwo t_heardMore t_pageLength t_page t_says t_dealt t_farOf t_endMany t_endMost t_endLeast t_endFew t_seedNow t_saved t_isKept t_keptWill t_keptChanges t_keptHeard t_keptWorth t_keptThing t_keptChangesOf t_keptHeir t_keptOne t_keptTwo t_keptMore t_h x1 e3) gX7_faultNow_X7_isGood rfl ⟨rfl, rfl⟩ nd_X7_isGood ⟨Nat.le_of_ble_eq_true rfl, Nat.le_of_ble_eq_true rfl⟩ 0 7 rfl rfl rfl hl.1 rfl (Nat.le_of_ble_eq_true rfl) dX7_faultNow_12 (pm0 (w_X7 cI cB ad_t t_wills t_heirs t_kindOf t_worthOf t_thingOf t_changesOf t_changes t_heard t_heardHeir t_heardOne t_heardTwo t_heardMore t_pageLength t_page t_says t_dealt t_farOf t_endMany t_endMost t_endLeast t_endFew t_seedNow t_saved t_isKept t_keptWill t_keptChanges t_keptHeard t_keptWorth t_keptThing t_keptChangesOf t_keptHeir t_keptOne t_keptTwo t_keptMore t_h)) (pm0 (w_X7 cI cB ad_t t_wills t_heirs t_kindOf t_worthOf t_thingOf t_changesOf t_changes t_heard t_heardHeir t_heardOne t_heardTwo t_heardMore t_pageLength t_page t_says t_dealt t_farOf t_endMany t_endMost t_endLeast t_endFew t_seedNow t_saved t_isKept t_keptWill t_keptChanges t_keptHeard t_keptWorth t_keptThing t_keptChangesOf t_keptHeir t_keptOne t_keptTwo t_keptMore t_h)) (fun H locs hP hD hS => ?_)
      refine lv_if_eq (tgt := 24) hx hb dX7_faultNow_15 (by decide) (fun c4 => ?_) (fun c4 => ?_)
      · replace hf := (if_pos c4).symm.trans hf
        refine lv_iload_n hx hb dX7_faultNow_24 rfl (lv_at hl 1 rfl) ?_
        replace hf : (some x1 : Option (Int32)) = some rr := hf
        cases hf
        exact ret_i F hP hS dX7_faultNow_25
      · replace hf := (if_neg c4).symm.trans hf
        refine lv_iinc (v := (x1 + 1)) (lv' := [(1, .int (x1 + 1)), (0, .ref (ad_t 0))]) hx hb dX7_faultNow_18 hl (k := 1) rfl rfl (by decide) rfl (fun ls hl => ?_)
        refine lv_goto (tgt := 2) hx hb dX7_faultNow_21 (by decide) ?_
        exact ih (x1 + 1) H locs ls hP hD hS (lv_sub hl [1, 0] rfl) hf

set_option maxHeartbeats 4000000 in
set_option maxRecDepth 100000 in
theorem k_X7_faultNow (l : Launch) {D : va_G} {cI cB : ClassId} {kK kV : Nat → Nat} (ad_t : Nat → Nat) (t_wills : Int32) (t_heirs : Int32) (t_kindOf : Nat → Int32) (t_worthOf : Nat → Int32) (t_thingOf : Nat → Int32) (t_changesOf : Nat → Int32) (t_changes : Int32) (t_heard : Int32) (t_heardHeir : Nat → Int32) (t_heardOne : Nat → Int32) (t_heardTwo : Nat → Int32) (t_heardMore : Nat → Int32) (t_pageLength : Int32) (t_page : Nat → Int32) (t_says : Nat → Int32) (t_dealt : Nat → Int32) (t_farOf : Nat → Int32) (t_endMany : Int32) (t_endMost : Int32) (t_endLeast : Int32) (t_endFew : Int32) (t_seedNow : Int64) (t_saved : Nat → Int32) (t_isKept : Int32) (t_keptWill : Int32) (t_keptChanges : Int32) (t_keptHeard : Int32) (t_keptWorth : Nat → Int32) (t_keptThing : Nat → Int32) (t_keptChangesOf : Nat → Int32) (t_keptHeir : Nat → Int32) (t_keptOne : Nat → Int32) (t_keptTwo : Nat → Int32) (t_keptMore : Nat → Int32) (t_h : Int64)  {rr : Int32}  (hf : f_X7_faultNow t_pageLength t_page = some rr) : Ct l yX7_faultNow wsX7_faultNow rm_X7_faultNow D cI cB kK kV [.ref (ad_t 0)] (w_X7 cI cB ad_t t_wills t_heirs t_kindOf t_worthOf t_thingOf t_changesOf t_changes t_heard t_heardHeir t_heardOne t_heardTwo t_heardMore t_pageLength t_page t_says t_dealt t_farOf t_endMany t_endMost t_endLeast t_endFew t_seedNow t_saved t_isKept t_keptWill t_keptChanges t_keptHeard t_keptWorth t_keptThing t_keptChangesOf t_keptHeir t_keptOne t_keptTwo t_keptMore t_h) (w_X7 cI cB ad_t t_wills t_heirs t_kindOf t_worthOf t_thingOf t_changesOf t_changes t_heard t_heardHeir t_heardOne t_heardTwo t_heardMore t_pageLength t_page t_says t_dealt t_farOf t_endMany t_endMost t_endLeast t_endFew t_seedNow t_saved t_isKept t_keptWill t_keptChanges t_keptHeard t_keptWorth t_keptThing t_keptChangesOf t_keptHeir t_keptOne t_keptTwo t_keptMore t_h) (some (.int rr)) := by
  refine Ct.of (cc := cX7_faultNow) (maxL := 2) (ret := (some .int)) (by decide) rfl (Nat.le_of_ble_eq_true rfl) rfl ?_
  intro p e s m below meth c A ls F hP hD hS hl
  have hl : lv_has ls 2 [(0, .ref (ad_t 0))] := hl
  obtain ⟨hx, hb, hml, hown, hts, hrt, hlocks, hK, hA, hZ⟩ := id F
  obtain ⟨H, hH⟩ : ∃ H, H = s.heap := ⟨_, rfl⟩
  obtain ⟨locs, hLo⟩ : ∃ q : List Loc, q = [] := ⟨_, rfl⟩
  refine (?_ : W p l e rm_X7_faultNow s m _ below meth c s.heap [] 0 0 _ _)
  rw [← hH, ← hLo]
  rw [← hH] at hP
  have hS : va_S A s.heap H locs := by rw [hH, hLo]; exact hS
  refine lv_iconst (v := 0) hx hb dX7_faultNow_0 (by decide) ?_
  refine lv_istore_n (lv' := [(1, .int 0), (0, .ref (ad_t 0))]) hx hb dX7_faultNow_1 rfl hl (by decide) rfl (fun ls hl => ?_)
  exact b_X7_faultNow_2 F 300 0 H locs ls hP hD hS (lv_sub hl [1, 0] rfl) hf

/-! X7_fault -/
def rm_X7_fault : Room := { frames := 3, cells := 0, slots := 0, locals := 66 }
theorem nd_X7_fault : yX7_fault.cls = RX7 ∧ yX7_fault.cls ≠ "java/lang/invoke/MethodHandle" ∧ yX7_fault.cls ≠ "java/lang/invoke/VarHandle" ∧ (parseMethodDescriptor yX7_fault.desc).map (fun d => d.parameters.length) = some 0 := by decide +kernel
def f_X7_fault (t_pageLength : Int32) (t_page : Nat → Int32)  : Option (Int32) := (f_X7_faultNow t_pageLength t_page).bind (fun v1 => some v1)
set_option maxHeartbeats 4000000 in
set_option maxRecDepth 100000 in
theorem k_X7_fault (l : Launch) {D : va_G} {cI cB : ClassId} {kK kV : Nat → Nat} (ad_t : Nat → Nat) (t_wills : Int32) (t_heirs : Int32) (t_kindOf : Nat → Int32) (t_worthOf : Nat → Int32) (t_thingOf : Nat → Int32) (t_changesOf : Nat → Int32) (t_changes : Int32) (t_heard : Int32) (t_heardHeir : Nat → Int32) (t_heardOne : Nat → Int32) (t_heardTwo : Nat → Int32) (t_heardMore : Nat → Int32) (t_pageLength : Int32) (t_page : Nat → Int32) (t_says : Nat → Int32) (t_dealt : Nat → Int32) (t_farOf : Nat → Int32) (t_endMany : Int32) (t_endMost : Int32) (t_endLeast : Int32) (t_endFew : Int32) (t_seedNow : Int64) (t_saved : Nat → Int32) (t_isKept : Int32) (t_keptWill : Int32) (t_keptChanges : Int32) (t_keptHeard : Int32) (t_keptWorth : Nat → Int32) (t_keptThing : Nat → Int32) (t_keptChangesOf : Nat → Int32) (t_keptHeir : Nat → Int32) (t_keptOne : Nat → Int32) (t_keptTwo : Nat → Int32) (t_keptMore : Nat → Int32) (t_h : Int64)  {rr : Int32}  (hf : f_X7_fault t_pageLength t_page = some rr) : Ct l yX7_fault wsX7_fault rm_X7_fault D cI cB kK kV [.ref (ad_t 0)] (w_X7 cI cB ad_t t_wills t_heirs t_kindOf t_worthOf t_thingOf t_changesOf t_changes t_heard t_heardHeir t_heardOne t_heardTwo t_heardMore t_pageLength t_page t_says t_dealt t_farOf t_endMany t_endMost t_endLeast t_endFew t_seedNow t_saved t_isKept t_keptWill t_keptChanges t_keptHeard t_keptWorth t_keptThing t_keptChangesOf t_keptHeir t_keptOne t_keptTwo t_keptMore t_h) (w_X7 cI cB ad_t t_wills t_heirs t_kindOf t_worthOf t_thingOf t_changesOf t_changes t_heard t_heardHeir t_heardOne t_heardTwo t_heardMore t_pageLength t_page t_says t_dealt t_farOf t_endMany t_endMost t_endLeast t_endFew t_seedNow t_saved t_isKept t_keptWill t_keptChanges t_keptHeard t_keptWorth t_keptThing t_keptChangesOf t_keptHeir t_keptOne t_keptTwo t_keptMore t_h) (some (.int rr)) := by
  refine Ct.of (cc := cX7_fault) (maxL := 1) (ret := (some .int)) (by decide) rfl (Nat.le_of_ble_eq_true rfl) rfl ?_
  intro p e s m below meth c A ls F hP hD hS hl
  have hl : lv_has ls 1 [(0, .ref (ad_t 0))] := hl
  obtain ⟨hx, hb, hml, hown, hts, hrt, hlocks, hK, hA, hZ⟩ := id F
  obtain ⟨H, hH⟩ : ∃ H, H = s.heap := ⟨_, rfl⟩
  obtain ⟨locs, hLo⟩ : ∃ q : List Loc, q = [] := ⟨_, rfl⟩
  refine (?_ : W p l e rm_X7_fault s m _ below meth c s.heap [] 0 0 _ _)
  rw [← hH, ← hLo]
  rw [← hH] at hP
  have hS : va_S A s.heap H locs := by rw [hH, hLo]; exact hS
  refine lv_aload_n hx hb dX7_fault_0 rfl (lv_at hl 0 rfl) ?_
  obtain ⟨v1, e2, hf⟩ := bnd hf
  refine cV F hP hD hS (k_X7_faultNow l ad_t t_wills t_heirs t_kindOf t_worthOf t_thingOf t_changesOf t_changes t_heard t_heardHeir t_heardOne t_heardTwo t_heardMore t_pageLength t_page t_says t_dealt t_farOf t_endMany t_endMost t_endLeast t_endFew t_seedNow t_saved t_isKept t_keptWill t_keptChanges t_keptHeard t_keptWorth t_keptThing t_keptChangesOf t_keptHeir t_keptOne t_keptTwo t_keptMore t_h  e2) gX7_fault_X7_faultNow rfl ⟨rfl, rfl⟩ nd_X7_faultNow ⟨Nat.le_of_ble_eq_true rfl, Nat.le_of_ble_eq_true rfl⟩ 0 7 rfl rfl rfl hl.1 rfl (Nat.le_of_ble_eq_true rfl) dX7_fault_1 (pm0 (w_X7 cI cB ad_t t_wills t_heirs t_kindOf t_worthOf t_thingOf t_changesOf t_changes t_heard t_heardHeir t_heardOne t_heardTwo t_heardMore t_pageLength t_page t_says t_dealt t_farOf t_endMany t_endMost t_endLeast t_endFew t_seedNow t_saved t_isKept t_keptWill t_keptChanges t_keptHeard t_keptWorth t_keptThing t_keptChangesOf t_keptHeir t_keptOne t_keptTwo t_keptMore t_h)) (pm0 (w_X7 cI cB ad_t t_wills t_heirs t_kindOf t_worthOf t_thingOf t_changesOf t_changes t_heard t_heardHeir t_heardOne t_heardTwo t_heardMore t_pageLength t_page t_says t_dealt t_farOf t_endMany t_endMost t_endLeast t_endFew t_seedNow t_saved t_isKept t_keptWill t_keptChanges t_keptHeard t_keptWorth t_keptThing t_keptChangesOf t_keptHeir t_keptOne t_keptTwo t_keptMore t_h)) (fun H locs hP hD hS => ?_)
  replace hf : (some v1 : Option (Int32)) = some rr := hf
  cases hf
  exact ret_i F hP hS dX7_fault_4

/-! X7_saysBy -/
def rm_X7_saysBy : Room := { frames := 0, cells := 0, slots := 0, locals := 0 }
theorem in_X7_saysBy_X7 : ∀ w ∈ u_ws RX7 TX7 35, w ∈ wsX7_saysBy := fun _ h => List.mem_cons_of_mem _ (List.mem_append_right _ (h))
theorem nd_X7_saysBy : yX7_saysBy.cls = RX7 ∧ yX7_saysBy.cls ≠ "java/lang/invoke/MethodHandle" ∧ yX7_saysBy.cls ≠ "java/lang/invoke/VarHandle" ∧ (parseMethodDescriptor yX7_saysBy.desc).map (fun d => d.parameters.length) = some 2 := by decide +kernel
def f_X7_saysBy (t_kindOf : Nat → Int32) (t_worthOf : Nat → Int32) (t_says : Nat → Int32) (x1 : Int32) (x2 : Int32) : Option (Int32) := (rd t_worthOf 16 ((4 * x1) + x2)).bind (fun v1 => (rd t_kindOf 4 x1).bind (fun v2 => (if v2 = 1 then some (9 - v1) else (if v2 = 2 then some 5 else (if v2 = 3 then (if x1 = 0 then some 9 else (rd t_says 16 ((4 * (x1 - 1)) + x2)).bind (fun v7 => some (9 - v7))) else (if v2 = 4 then (if v1 < 5 then some 0 else some (9 - v1)) else some v1))))))
set_option maxHeartbeats 4000000 in
set_option maxRecDepth 100000 in
theorem k_X7_saysBy (l : Launch) {D : va_G} {cI cB : ClassId} {kK kV : Nat → Nat} (ad_t : Nat → Nat) (t_wills : Int32) (t_heirs : Int32) (t_kindOf : Nat → Int32) (t_worthOf : Nat → Int32) (t_thingOf : Nat → Int32) (t_changesOf : Nat → Int32) (t_changes : Int32) (t_heard : Int32) (t_heardHeir : Nat → Int32) (t_heardOne : Nat → Int32) (t_heardTwo : Nat → Int32) (t_heardMore : Nat → Int32) (t_pageLength : Int32) (t_page : Nat → Int32) (t_says : Nat → Int32) (t_dealt : Nat → Int32) (t_farOf : Nat → Int32) (t_endMany : Int32) (t_endMost : Int32) (t_endLeast : Int32) (t_endFew : Int32) (t_seedNow : Int64) (t_saved : Nat → Int32) (t_isKept : Int32) (t_keptWill : Int32) (t_keptChanges : Int32) (t_keptHeard : Int32) (t_keptWorth : Nat → Int32) (t_keptThing : Nat → Int32) (t_keptChangesOf : Nat → Int32) (t_keptHeir : Nat → Int32) (t_keptOne : Nat → Int32) (t_keptTwo : Nat → Int32) (t_keptMore : Nat → Int32) (t_h : Int64) (x1 : Int32) (x2 : Int32) {rr : Int32}  (hf : f_X7_saysBy t_kindOf t_worthOf t_says x1 x2 = some rr) : Ct l yX7_saysBy wsX7_saysBy rm_X7_saysBy D cI cB kK kV [.ref (ad_t 0), .int x1, .int x2] (w_X7 cI cB ad_t t_wills t_heirs t_kindOf t_worthOf t_thingOf t_changesOf t_changes t_heard t_heardHeir t_heardOne t_heardTwo t_heardMore t_pageLength t_page t_says t_dealt t_farOf t_endMany t_endMost t_endLeast t_endFew t_seedNow t_saved t_isKept t_keptWill t_keptChanges t_keptHeard t_keptWorth t_keptThing t_keptChangesOf t_keptHeir t_keptOne t_keptTwo t_keptMore t_h) (w_X7 cI cB ad_t t_wills t_heirs t_kindOf t_worthOf t_thingOf t_changesOf t_changes t_heard t_heardHeir t_heardOne t_heardTwo t_heardMore t_pageLength t_page t_says t_dealt t_farOf t_endMany t_endMost t_endLeast t_endFew t_seedNow t_saved t_isKept t_keptWill t_keptChanges t_keptHeard t_keptWorth t_keptThing t_keptChangesOf t_keptHeir t_keptOne t_keptTwo t_keptMore t_h) (some (.int rr)) := by
  refine Ct.of (cc := cX7_saysBy) (maxL := 4) (ret := (some .int)) (by decide) rfl (Nat.le_of_ble_eq_true rfl) rfl ?_
  intro p e s m below meth c A ls F hP hD hS hl
  have hl : lv_has ls 4 [(0, .ref (ad_t 0)), (1, .int x1), (2, .int x2)] := hl
  obtain ⟨hx, hb, hml, hown, hts, hrt, hlocks, hK, hA, hZ⟩ := id F
  obtain ⟨H, hH⟩ : ∃ H, H = s.heap := ⟨_, rfl⟩
  obtain ⟨locs, hLo⟩ : ∃ q : List Loc, q = [] := ⟨_, rfl⟩
  refine (?_ : W p l e rm_X7_saysBy s m _ below meth c s.heap [] 0 0 _ _)
  rw [← hH, ← hLo]
  rw [← hH] at hP
  have hS : va_S A s.heap H locs := by rw [hH, hLo]; exact hS
  refine lv_aload_n hx hb dX7_saysBy_0 rfl (lv_at hl 0 rfl) ?_
  refine gf F hP in_X7_saysBy_X7 0 rfl rfl 3 (by decide) 1 rfl rfl dX7_saysBy_1 ?_
  refine lv_iconst (v := 4) hx hb dX7_saysBy_4 (by decide) ?_
  refine lv_iload_n hx hb dX7_saysBy_5 rfl (lv_at hl 1 rfl) ?_
  refine lv_imul hx hb dX7_saysBy_6 ?_
  refine lv_iload_n hx hb dX7_saysBy_7 rfl (lv_at hl 2 rfl) ?_
  refine lv_iadd hx hb dX7_saysBy_8 ?_
  obtain ⟨v1, ev1, hf⟩ := bnd hf
  refine ald F hP 2 rfl ev1 dX7_saysBy_9 ?_
  refine lv_istore_n (lv' := [(3, .int v1), (0, .ref (ad_t 0)), (1, .int x1), (2, .int x2)]) hx hb dX7_saysBy_10 rfl hl (by decide) rfl (fun ls hl => ?_)
  refine lv_aload_n hx hb dX7_saysBy_11 rfl (lv_at hl 1 rfl) ?_
  refine gf F hP in_X7_saysBy_X7 0 rfl rfl 2 (by decide) 2 rfl rfl dX7_saysBy_12 ?_
  refine lv_iload_n hx hb dX7_saysBy_15 rfl (lv_at hl 2 rfl) ?_
  obtain ⟨v2, ev2, hf⟩ := bnd hf
  refine ald F hP 1 rfl ev2 dX7_saysBy_16 ?_
  by_cases c3 : v2 = 1
  · replace hf := (if_pos c3).symm.trans hf
    refine lv_tableIn (off := 31) (tgt := 48) hx hb dX7_saysBy_17 (by rw [c3]; decide) (by rw [c3]; decide) (by rw [c3]; rfl) (by decide) ?_
    refine lv_bipush (v := 9) hx hb dX7_saysBy_48 (by decide) ?_
    refine lv_iload_n hx hb dX7_saysBy_50 rfl (lv_at hl 0 rfl) ?_
    refine lv_isub hx hb dX7_saysBy_51 ?_
    replace hf : (some (9 - v1) : Option (Int32)) = some rr := hf
    cases hf
    exact ret_i F hP hS dX7_saysBy_52
  replace hf := (if_neg c3).symm.trans hf
  by_cases c4 : v2 = 2
  · replace hf := (if_pos c4).symm.trans hf
    refine lv_tableIn (off := 36) (tgt := 53) hx hb dX7_saysBy_17 (by rw [c4]; decide) (by rw [c4]; decide) (by rw [c4]; rfl) (by decide) ?_
    refine lv_iconst (v := 5) hx hb dX7_saysBy_53 (by decide) ?_
    replace hf : (some 5 : Option (Int32)) = some rr := hf
    cases hf
    exact ret_i F hP hS dX7_saysBy_54
  replace hf := (if_neg c4).symm.trans hf
  by_cases c5 : v2 = 3
  · replace hf := (if_pos c5).symm.trans hf
    refine lv_tableIn (off := 38) (tgt := 55) hx hb dX7_saysBy_17 (by rw [c5]; decide) (by rw [c5]; decide) (by rw [c5]; rfl) (by decide) ?_
    refine lv_iload_n hx hb dX7_saysBy_55 rfl (lv_at hl 2 rfl) ?_
    refine lv_if_ne (tgt := 64) hx hb dX7_saysBy_56 (by decide) (fun c6 => ?_) (fun c6 => ?_)
    · replace hf := (if_neg c6).symm.trans hf
      refine lv_bipush (v := 9) hx hb dX7_saysBy_64 (by decide) ?_
      refine lv_aload_n hx hb dX7_saysBy_66 rfl (lv_at hl 1 rfl) ?_
      refine gf F hP in_X7_saysBy_X7 0 rfl rfl 14 (by decide) 3 rfl rfl dX7_saysBy_67 ?_
      refine lv_iconst (v := 4) hx hb dX7_saysBy_70 (by decide) ?_
      refine lv_iload_n hx hb dX7_saysBy_71 rfl (lv_at hl 2 rfl) ?_
      refine lv_iconst (v := 1) hx hb dX7_saysBy_72 (by decide) ?_
      refine lv_isub hx hb dX7_saysBy_73 ?_
      refine lv_imul hx hb dX7_saysBy_74 ?_
      refine lv_iload_n hx hb dX7_saysBy_75 rfl (lv_at hl 3 rfl) ?_
      refine lv_iadd hx hb dX7_saysBy_76 ?_
      obtain ⟨v7, ev7, hf⟩ := bnd hf
      refine ald F hP 10 rfl ev7 dX7_saysBy_77 ?_
      refine lv_isub hx hb dX7_saysBy_78 ?_
      replace hf : (some (9 - v7) : Option (Int32)) = some rr := hf
      cases hf
      exact ret_i F hP hS dX7_saysBy_79
    · replace hf := (if_pos c6).symm.trans hf
      refine lv_bipush (v := 9) hx hb dX7_saysBy_59 (by decide) ?_
      refine lv_goto (tgt := 79) hx hb dX7_saysBy_61 (by decide) ?_
      replace hf : (some 9 : Option (Int32)) = some rr := hf
      cases hf
      exact ret_i F hP hS dX7_saysBy_79
  replace hf := (if_neg c5).symm.trans hf
  by_cases c8 : v2 = 4
  · replace hf := (if_pos c8).symm.trans hf
    refine lv_tableIn (off := 63) (tgt := 80) hx hb dX7_saysBy_17 (by rw [c8]; decide) (by rw [c8]; decide) (by rw [c8]; rfl) (by decide) ?_
    refine lv_iload_n hx hb dX7_saysBy_80 rfl (lv_at hl 0 rfl) ?_
    refine lv_iconst (v := 5) hx hb dX7_saysBy_81 (by decide) ?_
    refine lv_icmp_lt (tgt := 92) hx hb dX7_saysBy_82 (by decide) (fun c9 => ?_) (fun c9 => ?_)
    · replace hf := (if_pos c9).symm.trans hf
      refine lv_iconst (v := 0) hx hb dX7_saysBy_92 (by decide) ?_
      replace hf : (some 0 : Option (Int32)) = some rr := hf
      cases hf
      exact ret_i F hP hS dX7_saysBy_93
    · replace hf := (if_neg c9).symm.trans hf
      refine lv_bipush (v := 9) hx hb dX7_saysBy_85 (by decide) ?_
      refine lv_iload_n hx hb dX7_saysBy_87 rfl (lv_at hl 0 rfl) ?_
      refine lv_isub hx hb dX7_saysBy_88 ?_
      refine lv_goto (tgt := 93) hx hb dX7_saysBy_89 (by decide) ?_
      replace hf : (some (9 - v1) : Option (Int32)) = some rr := hf
      cases hf
      exact ret_i F hP hS dX7_saysBy_93
  replace hf := (if_neg c8).symm.trans hf
  have o10 : (v2 : Int32).toInt < 1 ∨ 4 < (v2 : Int32).toInt := by
    have z0 := lv_neT (a := 1) c3 (by decide)
    have z1 := lv_neT (a := 2) c4 (by decide)
    have z2 := lv_neT (a := 3) c5 (by decide)
    have z3 := lv_neT (a := 4) c8 (by decide)
    omega
  refine lv_tableOut (tgt := 94) hx hb dX7_saysBy_17 o10 (by decide) ?_
  refine lv_iload_n hx hb dX7_saysBy_94 rfl (lv_at hl 0 rfl) ?_
  replace hf : (some v1 : Option (Int32)) = some rr := hf
  cases hf
  exact ret_i F hP hS dX7_saysBy_95

/-! X7_laySays -/
def rm_X7_laySays : Room := { frames := 1, cells := 0, slots := 0, locals := 23 }
theorem in_X7_laySays_X7 : ∀ w ∈ u_ws RX7 TX7 35, w ∈ wsX7_laySays := fun _ h => List.mem_cons_of_mem _ (List.mem_append_right _ (h))
theorem nd_X7_laySays : yX7_laySays.cls = RX7 ∧ yX7_laySays.cls ≠ "java/lang/invoke/MethodHandle" ∧ yX7_laySays.cls ≠ "java/lang/invoke/VarHandle" ∧ (parseMethodDescriptor yX7_laySays.desc).map (fun d => d.parameters.length) = some 0 := by decide +kernel
def f_X7_laySays_12 (t_heirs : Int32) (t_kindOf : Nat → Int32) (t_worthOf : Nat → Int32) (back_2 : Int32 → (Nat → Int32) → Option ((Nat → Int32))) : Nat → Int32 → Int32 → (Nat → Int32) → Option ((Nat → Int32))
  | 0, _, _, _ => none
  | n + 1, x1, x2, t_says => (if 4 ≤ x2 then back_2 (x1 + 1) t_says else (f_X7_saysBy t_kindOf t_worthOf t_says x1 x2).bind (fun v2 => (wr t_says 16 ((4 * x1) + x2) v2).bind (fun g4 => f_X7_laySays_12 t_heirs t_kindOf t_worthOf back_2 n x1 (x2 + 1) g4)))
def f_X7_laySays_2 (t_heirs : Int32) (t_kindOf : Nat → Int32) (t_worthOf : Nat → Int32)  : Nat → Int32 → (Nat → Int32) → Option ((Nat → Int32))
  | 0, _, _ => none
  | n + 1, x1, t_says => (if t_heirs ≤ x1 then some t_says else f_X7_laySays_12 t_heirs t_kindOf t_worthOf (f_X7_laySays_2 t_heirs t_kindOf t_worthOf  n) 300 x1 0 t_says)
def f_X7_laySays (t_heirs : Int32) (t_kindOf : Nat → Int32) (t_worthOf : Nat → Int32) (t_says : Nat → Int32)  : Option ((Nat → Int32)) := f_X7_laySays_2 t_heirs t_kindOf t_worthOf 300 0 t_says
set_option maxHeartbeats 4000000 in
set_option maxRecDepth 100000 in
theorem b_X7_laySays_12 {p : Program} {l : Launch} {e : Env} {s : State} {m : MethodId} {args : Array Value} {below : List Frame} {meth : Method} {c : Code} {D : va_G} {cI cB : ClassId} {kK kV : Nat → Nat} {A : Nat → Prop} (F : Fx p m c s meth args cX7_laySays 3 RX7 wsX7_laySays none D cI cB kK kV A) {ad_t : Nat → Nat} {t_wills : Int32} {t_heirs : Int32} {t_kindOf : Nat → Int32} {t_worthOf : Nat → Int32} {t_thingOf : Nat → Int32} {t_changesOf : Nat → Int32} {t_changes : Int32} {t_heard : Int32} {t_heardHeir : Nat → Int32} {t_heardOne : Nat → Int32} {t_heardTwo : Nat → Int32} {t_heardMore : Nat → Int32} {t_pageLength : Int32} {t_page : Nat → Int32} {t_dealt : Nat → Int32} {t_farOf : Nat → Int32} {t_endMany : Int32} {t_endMost : Int32} {t_endLeast : Int32} {t_endFew : Int32} {t_seedNow : Int64} {t_saved : Nat → Int32} {t_isKept : Int32} {t_keptWill : Int32} {t_keptChanges : Int32} {t_keptHeard : Int32} {t_keptWorth : Nat → Int32} {t_keptThing : Nat → Int32} {t_keptChangesOf : Nat → Int32} {t_keptHeir : Nat → Int32} {t_keptOne : Nat → Int32} {t_keptTwo : Nat → Int32} {t_keptMore : Nat → Int32} {t_h : Int64}  {g_t_says : Nat → Int32} (back_2 : Int32 → (Nat → Int32) → Option ((Nat → Int32))) (hb_2 : ∀ (x1 : Int32) (t_says : Nat → Int32) (H : Heap) (locs : List Loc) (ls : Array Slot), va_P D vwCl (w_X7 cI cB ad_t t_wills t_heirs t_kindOf t_worthOf t_thingOf t_changesOf t_changes t_heard t_heardHeir t_heardOne t_heardTwo t_heardMore t_pageLength t_page t_says t_dealt t_farOf t_endMany t_endMost t_endLeast t_endFew t_seedNow t_saved t_isKept t_keptWill t_keptChanges t_keptHeard t_keptWorth t_keptThing t_keptChangesOf t_keptHeir t_keptOne t_keptTwo t_keptMore t_h) H → va_D A (w_X7 cI cB ad_t t_wills t_heirs t_kindOf t_worthOf t_thingOf t_changesOf t_changes t_heard t_heardHeir t_heardOne t_heardTwo t_heardMore t_pageLength t_page t_says t_dealt t_farOf t_endMany t_endMost t_endLeast t_endFew t_seedNow t_saved t_isKept t_keptWill t_keptChanges t_keptHeard t_keptWorth t_keptThing t_keptChangesOf t_keptHeir t_keptOne t_keptTwo t_keptMore t_h) → va_S A s.heap H locs → lv_has ls 3 [(0, .ref (ad_t 0)), (1, .int x1)] → back_2 x1 t_says = some g_t_says → W p l e rm_X7_laySays s m args below meth c H locs 0 0 (Zq D below args s A (w_X7 cI cB ad_t t_wills t_heirs t_kindOf t_worthOf t_thingOf t_changesOf t_changes t_heard t_heardHeir t_heardOne t_heardTwo t_heardMore t_pageLength t_page g_t_says t_dealt t_farOf t_endMany t_endMost t_endLeast t_endFew t_seedNow t_saved t_isKept t_keptWill t_keptChanges t_keptHeard t_keptWorth t_keptThing t_keptChangesOf t_keptHeir t_keptOne t_keptTwo t_keptMore t_h) none) (F0 m 2 ls [])) : ∀ (n : Nat), ∀ (x1 : Int32) (x2 : Int32) (t_says : Nat → Int32) (H : Heap) (locs : List Loc) (ls : Array Slot), va_P D vwCl (w_X7 cI cB ad_t t_wills t_heirs t_kindOf t_worthOf t_thingOf t_changesOf t_changes t_heard t_heardHeir t_heardOne t_heardTwo t_heardMore t_pageLength t_page t_says t_dealt t_farOf t_endMany t_endMost t_endLeast t_endFew t_seedNow t_saved t_isKept t_keptWill t_keptChanges t_keptHeard t_keptWorth t_keptThing t_keptChangesOf t_keptHeir t_keptOne t_keptTwo t_keptMore t_h) H → va_D A (w_X7 cI cB ad_t t_wills t_heirs t_kindOf t_worthOf t_thingOf t_changesOf t_changes t_heard t_heardHeir t_heardOne t_heardTwo t_heardMore t_pageLength t_page t_says t_dealt t_farOf t_endMany t_endMost t_endLeast t_endFew t_seedNow t_saved t_isKept t_keptWill t_keptChanges t_keptHeard t_keptWorth t_keptThing t_keptChangesOf t_keptHeir t_keptOne t_keptTwo t_keptMore t_h) → va_S A s.heap H locs → lv_has ls 3 [(0, .ref (ad_t 0)), (1, .int x1), (2, .int x2)] → f_X7_laySays_12 t_heirs t_kindOf t_worthOf back_2 n x1 x2 t_says = some g_t_says → W p l e rm_X7_laySays s m args below meth c H locs 0 0 (Zq D below args s A (w_X7 cI cB ad_t t_wills t_heirs t_kindOf t_worthOf t_thingOf t_changesOf t_changes t_heard t_heardHeir t_heardOne t_heardTwo t_heardMore t_pageLength t_page g_t_says t_dealt t_farOf t_endMany t_endMost t_endLeast t_endFew t_seedNow t_saved t_isKept t_keptWill t_keptChanges t_keptHeard t_keptWorth t_keptThing t_keptChangesOf t_keptHeir t_keptOne t_keptTwo t_keptMore t_h) none) (F0 m 12 ls []) := by
  obtain ⟨hx, hb, hml, hown, hts, hrt, hlocks, hK, hA, hZ⟩ := id F
  intro n
  induction n with
  | zero =>
    intro x1 x2 t_says H locs ls hP hD hS hl hf
    cases hf
  | succ n ih =>
    intro x1 x2 t_says H locs ls hP hD hS hl hf
    refine lv_iload_n hx hb dX7_laySays_12 rfl (lv_at hl 2 rfl) ?_
    refine lv_iconst (v := 4) hx hb dX7_laySays_13 (by decide) ?_
    refine lv_icmp_ge (tgt := 39) hx hb dX7_laySays_14 (by decide) (fun c1 => ?_) (fun c1 => ?_)
    · replace hf := (if_pos c1).symm.trans hf
      refine lv_iinc (v := (x1 + 1)) (lv' := [(1, .int (x1 + 1)), (0, .ref (ad_t 0)), (2, .int x2)]) hx hb dX7_laySays_39 hl (k := 1) rfl rfl (by decide) rfl (fun ls hl => ?_)
      refine lv_goto (tgt := 2) hx hb dX7_laySays_42 (by decide) ?_
      exact hb_2 (x1 + 1) t_says H locs ls hP hD hS (lv_sub hl [1, 0] rfl) hf
    · replace hf := (if_neg c1).symm.trans hf
      refine lv_aload_n hx hb dX7_laySays_17 rfl (lv_at hl 0 rfl) ?_
      refine gf F hP in_X7_laySays_X7 0 rfl rfl 14 (by decide) 2 rfl rfl dX7_laySays_18 ?_
      refine lv_iconst (v := 4) hx hb dX7_laySays_21 (by decide) ?_
      refine lv_iload_n hx hb dX7_laySays_22 rfl (lv_at hl 1 rfl) ?_
      refine lv_imul hx hb dX7_laySays_23 ?_
      refine lv_iload_n hx hb dX7_laySays_24 rfl (lv_at hl 2 rfl) ?_
      refine lv_iadd hx hb dX7_laySays_25 ?_
      refine lv_aload_n hx hb dX7_laySays_26 rfl (lv_at hl 0 rfl) ?_
      refine lv_iload_n hx hb dX7_laySays_27 rfl (lv_at hl 1 rfl) ?_
      refine lv_iload_n hx hb dX7_laySays_28 rfl (lv_at hl 2 rfl) ?_
      obtain ⟨v2, e3, hf⟩ := bnd hf
      refine cV F hP hD hS (k_X7_saysBy l ad_t t_wills t_heirs t_kindOf t_worthOf t_thingOf t_changesOf t_changes t_heard t_heardHeir t_heardOne t_heardTwo t_heardMore t_pageLength t_page t_says t_dealt t_farOf t_endMany t_endMost t_endLeast t_endFew t_seedNow t_saved t_isKept t_keptWill t_keptChanges t_keptHeard t_keptWorth t_keptThing t_keptChangesOf t_keptHeir t_keptOne t_keptTwo t_keptMore t_h x1 x2 e3) gX7_laySays_X7_saysBy rfl ⟨rfl, rfl⟩ nd_X7_saysBy ⟨Nat.le_of_ble_eq_true rfl, Nat.le_of_ble_eq_true rfl⟩ 0 7 rfl rfl rfl hl.1 rfl (Nat.le_of_ble_eq_true rfl) dX7_laySays_29 (pm0 (w_X7 cI cB ad_t t_wills t_heirs t_kindOf t_worthOf t_thingOf t_changesOf t_changes t_heard t_heardHeir t_heardOne t_heardTwo t_heardMore t_pageLength t_page t_says t_dealt t_farOf t_endMany t_endMost t_endLeast t_endFew t_seedNow t_saved t_isKept t_keptWill t_keptChanges t_keptHeard t_keptWorth t_keptThing t_keptChangesOf t_keptHeir t_keptOne t_keptTwo t_keptMore t_h)) (pm0 (w_X7 cI cB ad_t t_wills t_heirs t_kindOf t_worthOf t_thingOf t_changesOf t_changes t_heard t_heardHeir t_heardOne t_heardTwo t_heardMore t_pageLength t_page t_says t_dealt t_farOf t_endMany t_endMost t_endLeast t_endFew t_seedNow t_saved t_isKept t_keptWill t_keptChanges t_keptHeard t_keptWorth t_keptThing t_keptChangesOf t_keptHeir t_keptOne t_keptTwo t_keptMore t_h)) (fun H locs hP hD hS => ?_)
      obtain ⟨g4, eg4, hf⟩ := bnd hf
      refine ast F hP hD hS 10 rfl eg4 dX7_laySays_32 (w_X7 cI cB ad_t t_wills t_heirs t_kindOf t_worthOf t_thingOf t_changesOf t_changes t_heard t_heardHeir t_heardOne t_heardTwo t_heardMore t_pageLength t_page g4 t_dealt t_farOf t_endMany t_endMost t_endLeast t_endFew t_seedNow t_saved t_isKept t_keptWill t_keptChanges t_keptHeard t_keptWorth t_keptThing t_keptChangesOf t_keptHeir t_keptOne t_keptTwo t_keptMore t_h) rfl (fun H locs hP hD hS => ?_)
      refine lv_iinc (v := (x2 + 1)) (lv' := [(2, .int (x2 + 1)), (0, .ref (ad_t 0)), (1, .int x1)]) hx hb dX7_laySays_33 hl (k := 2) rfl rfl (by decide) rfl (fun ls hl => ?_)
      refine lv_goto (tgt := 12) hx hb dX7_laySays_36 (by decide) ?_
      exact ih x1 (x2 + 1) g4 H locs ls hP hD hS (lv_sub hl [1, 2, 0] rfl) hf

set_option maxHeartbeats 4000000 in
set_option maxRecDepth 100000 in
theorem b_X7_laySays_2 {p : Program} {l : Launch} {e : Env} {s : State} {m : MethodId} {args : Array Value} {below : List Frame} {meth : Method} {c : Code} {D : va_G} {cI cB : ClassId} {kK kV : Nat → Nat} {A : Nat → Prop} (F : Fx p m c s meth args cX7_laySays 3 RX7 wsX7_laySays none D cI cB kK kV A) {ad_t : Nat → Nat} {t_wills : Int32} {t_heirs : Int32} {t_kindOf : Nat → Int32} {t_worthOf : Nat → Int32} {t_thingOf : Nat → Int32} {t_changesOf : Nat → Int32} {t_changes : Int32} {t_heard : Int32} {t_heardHeir : Nat → Int32} {t_heardOne : Nat → Int32} {t_heardTwo : Nat → Int32} {t_heardMore : Nat → Int32} {t_pageLength : Int32} {t_page : Nat → Int32} {t_dealt : Nat → Int32} {t_farOf : Nat → Int32} {t_endMany : Int32} {t_endMost : Int32} {t_endLeast : Int32} {t_endFew : Int32} {t_seedNow : Int64} {t_saved : Nat → Int32} {t_isKept : Int32} {t_keptWill : Int32} {t_keptChanges : Int32} {t_keptHeard : Int32} {t_keptWorth : Nat → Int32} {t_keptThing : Nat → Int32} {t_keptChangesOf : Nat → Int32} {t_keptHeir : Nat → Int32} {t_keptOne : Nat → Int32} {t_keptTwo : Nat → Int32} {t_keptMore : Nat → Int32} {t_h : Int64}  {g_t_says : Nat → Int32} : ∀ (n : Nat), ∀ (x1 : Int32) (t_says : Nat → Int32) (H : Heap) (locs : List Loc) (ls : Array Slot), va_P D vwCl (w_X7 cI cB ad_t t_wills t_heirs t_kindOf t_worthOf t_thingOf t_changesOf t_changes t_heard t_heardHeir t_heardOne t_heardTwo t_heardMore t_pageLength t_page t_says t_dealt t_farOf t_endMany t_endMost t_endLeast t_endFew t_seedNow t_saved t_isKept t_keptWill t_keptChanges t_keptHeard t_keptWorth t_keptThing t_keptChangesOf t_keptHeir t_keptOne t_keptTwo t_keptMore t_h) H → va_D A (w_X7 cI cB ad_t t_wills t_heirs t_kindOf t_worthOf t_thingOf t_changesOf t_changes t_heard t_heardHeir t_heardOne t_heardTwo t_heardMore t_pageLength t_page t_says t_dealt t_farOf t_endMany t_endMost t_endLeast t_endFew t_seedNow t_saved t_isKept t_keptWill t_keptChanges t_keptHeard t_keptWorth t_keptThing t_keptChangesOf t_keptHeir t_keptOne t_keptTwo t_keptMore t_h) → va_S A s.heap H locs → lv_has ls 3 [(0, .ref (ad_t 0)), (1, .int x1)] → f_X7_laySays_2 t_heirs t_kindOf t_worthOf  n x1 t_says = some g_t_says → W p l e rm_X7_laySays s m args below meth c H locs 0 0 (Zq D below args s A (w_X7 cI cB ad_t t_wills t_heirs t_kindOf t_worthOf t_thingOf t_changesOf t_changes t_heard t_heardHeir t_heardOne t_heardTwo t_heardMore t_pageLength t_page g_t_says t_dealt t_farOf t_endMany t_endMost t_endLeast t_endFew t_seedNow t_saved t_isKept t_keptWill t_keptChanges t_keptHeard t_keptWorth t_keptThing t_keptChangesOf t_keptHeir t_keptOne t_keptTwo t_keptMore t_h) none) (F0 m 2 ls []) := by
  obtain ⟨hx, hb, hml, hown, hts, hrt, hlocks, hK, hA, hZ⟩ := id F
  intro n
  induction n with
  | zero =>
    intro x1 t_says H locs ls hP hD hS hl hf
    cases hf
  | succ n ih =>
    intro x1 t_says H locs ls hP hD hS hl hf
    refine lv_iload_n hx hb dX7_laySays_2 rfl (lv_at hl 1 rfl) ?_
    refine lv_aload_n hx hb dX7_laySays_3 rfl (lv_at hl 0 rfl) ?_
    refine gf F hP in_X7_laySays_X7 0 rfl rfl 1 (by decide) 1 rfl rfl dX7_laySays_4 ?_
    refine lv_icmp_ge (tgt := 45) hx hb dX7_laySays_7 (by decide) (fun c1 => ?_) (fun c1 => ?_)
    · replace hf := (if_pos c1).symm.trans hf
      replace hf : (some t_says : Option ((Nat → Int32))) = some g_t_says := hf
      cases hf
      exact ret_v F hP hS dX7_laySays_45
    · replace hf := (if_neg c1).symm.trans hf
      refine lv_iconst (v := 0) hx hb dX7_laySays_10 (by decide) ?_
      refine lv_istore_n (lv' := [(2, .int 0), (0, .ref (ad_t 0)), (1, .int x1)]) hx hb dX7_laySays_11 rfl hl (by decide) rfl (fun ls hl => ?_)
      exact b_X7_laySays_12 F (f_X7_laySays_2 t_heirs t_kindOf t_worthOf  n) ih 300 x1 0 t_says H locs ls hP hD hS (lv_sub hl [1, 2, 0] rfl) hf

set_option maxHeartbeats 4000000 in
set_option maxRecDepth 100000 in
theorem k_X7_laySays (l : Launch) {D : va_G} {cI cB : ClassId} {kK kV : Nat → Nat} (ad_t : Nat → Nat) (t_wills : Int32) (t_heirs : Int32) (t_kindOf : Nat → Int32) (t_worthOf : Nat → Int32) (t_thingOf : Nat → Int32) (t_changesOf : Nat → Int32) (t_changes : Int32) (t_heard : Int32) (t_heardHeir : Nat → Int32) (t_heardOne : Nat → Int32) (t_heardTwo : Nat → Int32) (t_heardMore : Nat → Int32) (t_pageLength : Int32) (t_page : Nat → Int32) (t_says : Nat → Int32) (t_dealt : Nat → Int32) (t_farOf : Nat → Int32) (t_endMany : Int32) (t_endMost : Int32) (t_endLeast : Int32) (t_endFew : Int32) (t_seedNow : Int64) (t_saved : Nat → Int32) (t_isKept : Int32) (t_keptWill : Int32) (t_keptChanges : Int32) (t_keptHeard : Int32) (t_keptWorth : Nat → Int32) (t_keptThing : Nat → Int32) (t_keptChangesOf : Nat → Int32) (t_keptHeir : Nat → Int32) (t_keptOne : Nat → Int32) (t_keptTwo : Nat → Int32) (t_keptMore : Nat → Int32) (t_h : Int64)   {g_t_says : Nat → Int32} (hf : f_X7_laySays t_heirs t_kindOf t_worthOf t_says = some g_t_says) : Ct l yX7_laySays wsX7_laySays rm_X7_laySays D cI cB kK kV [.ref (ad_t 0)] (w_X7 cI cB ad_t t_wills t_heirs t_kindOf t_worthOf t_thingOf t_changesOf t_changes t_heard t_heardHeir t_heardOne t_heardTwo t_heardMore t_pageLength t_page t_says t_dealt t_farOf t_endMany t_endMost t_endLeast t_endFew t_seedNow t_saved t_isKept t_keptWill t_keptChanges t_keptHeard t_keptWorth t_keptThing t_keptChangesOf t_keptHeir t_keptOne t_keptTwo t_keptMore t_h) (w_X7 cI cB ad_t t_wills t_heirs t_kindOf t_worthOf t_thingOf t_changesOf t_changes t_heard t_heardHeir t_heardOne t_heardTwo t_heardMore t_pageLength t_page g_t_says t_dealt t_farOf t_endMany t_endMost t_endLeast t_endFew t_seedNow t_saved t_isKept t_keptWill t_keptChanges t_keptHeard t_keptWorth t_keptThing t_keptChangesOf t_keptHeir t_keptOne t_keptTwo t_keptMore t_h) none := by
  refine Ct.of (cc := cX7_laySays) (maxL := 3) (ret := none) (by decide) rfl (Nat.le_of_ble_eq_true rfl) rfl ?_
  intro p e s m below meth c A ls F hP hD hS hl
  have hl : lv_has ls 3 [(0, .ref (ad_t 0))] := hl
  obtain ⟨hx, hb, hml, hown, hts, hrt, hlocks, hK, hA, hZ⟩ := id F
  obtain ⟨H, hH⟩ : ∃ H, H = s.heap := ⟨_, rfl⟩
  obtain ⟨locs, hLo⟩ : ∃ q : List Loc, q = [] := ⟨_, rfl⟩
  refine (?_ : W p l e rm_X7_laySays s m _ below meth c s.heap [] 0 0 _ _)
  rw [← hH, ← hLo]
  rw [← hH] at hP
  have hS : va_S A s.heap H locs := by rw [hH, hLo]; exact hS
  refine lv_iconst (v := 0) hx hb dX7_laySays_0 (by decide) ?_
  refine lv_istore_n (lv' := [(1, .int 0), (0, .ref (ad_t 0))]) hx hb dX7_laySays_1 rfl hl (by decide) rfl (fun ls hl => ?_)
  exact b_X7_laySays_2 F 300 0 t_says H locs ls hP hD hS (lv_sub hl [1, 0] rfl) hf

/-! X7_layDeal -/
def rm_X7_layDeal : Room := { frames := 2, cells := 0, slots := 0, locals := 45 }
theorem in_X7_layDeal_X7 : ∀ w ∈ u_ws RX7 TX7 35, w ∈ wsX7_layDeal := fun _ h => List.mem_cons_of_mem _ (List.mem_append_right _ (h))
theorem nd_X7_layDeal : yX7_layDeal.cls = RX7 ∧ yX7_layDeal.cls ≠ "java/lang/invoke/MethodHandle" ∧ yX7_layDeal.cls ≠ "java/lang/invoke/VarHandle" ∧ (parseMethodDescriptor yX7_layDeal.desc).map (fun d => d.parameters.length) = some 0 := by decide +kernel
def f_X7_layDeal_83 (t_heirs : Int32) (t_kindOf : Nat → Int32) (t_worthOf : Nat → Int32) (back_8 : Int32 → Int32 → (Nat → Int32) → (Nat → Int32) → Option ((Nat → Int32) × (Nat → Int32))) (back_21 : Int32 → Int32 → Int32 → Int32 → (Nat → Int32) → (Nat → Int32) → Option ((Nat → Int32) × (Nat → Int32))) (x1 : Int32) (x2 : Int32) (x4 : Int32) (k0 : Int32) (t_says : Nat → Int32) (t_dealt : Nat → Int32) : Option ((Nat → Int32) × (Nat → Int32)) := back_21 x1 x2 k0 (x4 + 1) t_says t_dealt
def f_X7_layDeal_82 (t_heirs : Int32) (t_kindOf : Nat → Int32) (t_worthOf : Nat → Int32) (back_8 : Int32 → Int32 → (Nat → Int32) → (Nat → Int32) → Option ((Nat → Int32) × (Nat → Int32))) (back_21 : Int32 → Int32 → Int32 → Int32 → (Nat → Int32) → (Nat → Int32) → Option ((Nat → Int32) × (Nat → Int32))) (x1 : Int32) (x2 : Int32) (x3 : Int32) (x4 : Int32) (t_says : Nat → Int32) (t_dealt : Nat → Int32) : Option ((Nat → Int32) × (Nat → Int32)) := f_X7_layDeal_83 t_heirs t_kindOf t_worthOf back_8 back_21 x1 x2 x4 x3 t_says t_dealt
def f_X7_layDeal_61 (t_heirs : Int32) (t_kindOf : Nat → Int32) (t_worthOf : Nat → Int32) (back_8 : Int32 → Int32 → (Nat → Int32) → (Nat → Int32) → Option ((Nat → Int32) × (Nat → Int32))) (back_21 : Int32 → Int32 → Int32 → Int32 → (Nat → Int32) → (Nat → Int32) → Option ((Nat → Int32) × (Nat → Int32))) (x1 : Int32) (x2 : Int32) (x3 : Int32) (x4 : Int32) (k0 : Int32) (t_says : Nat → Int32) (t_dealt : Nat → Int32) : Option ((Nat → Int32) × (Nat → Int32)) := (f_X7_isIn x1 x4).bind (fun v1 => (if v1 = 0 then (if k0 = 0 then f_X7_layDeal_82 t_heirs t_kindOf t_worthOf back_8 back_21 x1 x2 x3 x4 t_says t_dealt else f_X7_layDeal_83 t_heirs t_kindOf t_worthOf back_8 back_21 x1 x2 x4 x4 t_says t_dealt) else f_X7_layDeal_82 t_heirs t_kindOf t_worthOf back_8 back_21 x1 x2 x3 x4 t_says t_dealt))
def f_X7_layDeal_56 (t_heirs : Int32) (t_kindOf : Nat → Int32) (t_worthOf : Nat → Int32) (back_8 : Int32 → Int32 → (Nat → Int32) → (Nat → Int32) → Option ((Nat → Int32) × (Nat → Int32))) (back_21 : Int32 → Int32 → Int32 → Int32 → (Nat → Int32) → (Nat → Int32) → Option ((Nat → Int32) × (Nat → Int32))) (x1 : Int32) (x2 : Int32) (x3 : Int32) (x4 : Int32) (t_says : Nat → Int32) (t_dealt : Nat → Int32) : Option ((Nat → Int32) × (Nat → Int32)) := f_X7_layDeal_61 t_heirs t_kindOf t_worthOf back_8 back_21 x1 x2 x3 x4 1 t_says t_dealt
def f_X7_layDeal_21 (t_heirs : Int32) (t_kindOf : Nat → Int32) (t_worthOf : Nat → Int32) (back_8 : Int32 → Int32 → (Nat → Int32) → (Nat → Int32) → Option ((Nat → Int32) × (Nat → Int32))) : Nat → Int32 → Int32 → Int32 → Int32 → (Nat → Int32) → (Nat → Int32) → Option ((Nat → Int32) × (Nat → Int32))
  | 0, _, _, _, _, _, _ => none
  | n + 1, x1, x2, x3, x4, t_says, t_dealt => (if 4 ≤ x4 then (wr t_dealt 4 x2 x3).bind (fun g2 => back_8 (x1 ||| ((1 : Int32) <<< (x3 &&& 31))) (x2 + 1) t_says g2) else (if x3 = (-1) then f_X7_layDeal_56 t_heirs t_kindOf t_worthOf back_8 (f_X7_layDeal_21 t_heirs t_kindOf t_worthOf back_8 n) x1 x2 x3 x4 t_says t_dealt else (rd t_says 16 ((4 * x2) + x4)).bind (fun v4 => (rd t_says 16 ((4 * x2) + x3)).bind (fun v5 => (if v5 ≤ v4 then f_X7_layDeal_61 t_heirs t_kindOf t_worthOf back_8 (f_X7_layDeal_21 t_heirs t_kindOf t_worthOf back_8 n) x1 x2 x3 x4 0 t_says t_dealt else f_X7_layDeal_56 t_heirs t_kindOf t_worthOf back_8 (f_X7_layDeal_21 t_heirs t_kindOf t_worthOf back_8 n) x1 x2 x3 x4 t_says t_dealt)))))
def f_X7_layDeal_8 (t_heirs : Int32) (t_kindOf : Nat → Int32) (t_worthOf : Nat → Int32)  : Nat → Int32 → Int32 → (Nat → Int32) → (Nat → Int32) → Option ((Nat → Int32) × (Nat → Int32))
  | 0, _, _, _, _ => none
  | n + 1, x1, x2, t_says, t_dealt => (if t_heirs ≤ x2 then some (t_says, t_dealt) else f_X7_layDeal_21 t_heirs t_kindOf t_worthOf (f_X7_layDeal_8 t_heirs t_kindOf t_worthOf  n) 300 x1 x2 (-1) 0 t_says t_dealt)
def f_X7_layDeal (t_heirs : Int32) (t_kindOf : Nat → Int32) (t_worthOf : Nat → Int32) (t_says : Nat → Int32) (t_dealt : Nat → Int32)  : Option ((Nat → Int32) × (Nat → Int32)) := (f_X7_laySays t_heirs t_kindOf t_worthOf t_says).bind (fun g1 => f_X7_layDeal_8 t_heirs t_kindOf t_worthOf 300 0 0 g1 t_dealt)
set_option maxHeartbeats 4000000 in
set_option maxRecDepth 100000 in
theorem b_X7_layDeal_83 {p : Program} {l : Launch} {e : Env} {s : State} {m : MethodId} {args : Array Value} {below : List Frame} {meth : Method} {c : Code} {D : va_G} {cI cB : ClassId} {kK kV : Nat → Nat} {A : Nat → Prop} (F : Fx p m c s meth args cX7_layDeal 6 RX7 wsX7_layDeal none D cI cB kK kV A) {ad_t : Nat → Nat} {t_wills : Int32} {t_heirs : Int32} {t_kindOf : Nat → Int32} {t_worthOf : Nat → Int32} {t_thingOf : Nat → Int32} {t_changesOf : Nat → Int32} {t_changes : Int32} {t_heard : Int32} {t_heardHeir : Nat → Int32} {t_heardOne : Nat → Int32} {t_heardTwo : Nat → Int32} {t_heardMore : Nat → Int32} {t_pageLength : Int32} {t_page : Nat → Int32} {t_farOf : Nat → Int32} {t_endMany : Int32} {t_endMost : Int32} {t_endLeast : Int32} {t_endFew : Int32} {t_seedNow : Int64} {t_saved : Nat → Int32} {t_isKept : Int32} {t_keptWill : Int32} {t_keptChanges : Int32} {t_keptHeard : Int32} {t_keptWorth : Nat → Int32} {t_keptThing : Nat → Int32} {t_keptChangesOf : Nat → Int32} {t_keptHeir : Nat → Int32} {t_keptOne : Nat → Int32} {t_keptTwo : Nat → Int32} {t_keptMore : Nat → Int32} {t_h : Int64}  {g_t_says : Nat → Int32} {g_t_dealt : Nat → Int32} (back_8 : Int32 → Int32 → (Nat → Int32) → (Nat → Int32) → Option ((Nat → Int32) × (Nat → Int32))) (hb_8 : ∀ (x1 : Int32) (x2 : Int32) (t_says : Nat → Int32) (t_dealt : Nat → Int32) (H : Heap) (locs : List Loc) (ls : Array Slot), va_P D vwCl (w_X7 cI cB ad_t t_wills t_heirs t_kindOf t_worthOf t_thingOf t_changesOf t_changes t_heard t_heardHeir t_heardOne t_heardTwo t_heardMore t_pageLength t_page t_says t_dealt t_farOf t_endMany t_endMost t_endLeast t_endFew t_seedNow t_saved t_isKept t_keptWill t_keptChanges t_keptHeard t_keptWorth t_keptThing t_keptChangesOf t_keptHeir t_keptOne t_keptTwo t_keptMore t_h) H → va_D A (w_X7 cI cB ad_t t_wills t_heirs t_kindOf t_worthOf t_thingOf t_changesOf t_changes t_heard t_heardHeir t_heardOne t_heardTwo t_heardMore t_pageLength t_page t_says t_dealt t_farOf t_endMany t_endMost t_endLeast t_endFew t_seedNow t_saved t_isKept t_keptWill t_keptChanges t_keptHeard t_keptWorth t_keptThing t_keptChangesOf t_keptHeir t_keptOne t_keptTwo t_keptMore t_h) → va_S A s.heap H locs → lv_has ls 6 [(0, .ref (ad_t 0)), (1, .int x1), (2, .int x2)] → back_8 x1 x2 t_says t_dealt = some (g_t_says, g_t_dealt) → W p l e rm_X7_layDeal s m args below meth c H locs 0 0 (Zq D below args s A (w_X7 cI cB ad_t t_wills t_heirs t_kindOf t_worthOf t_thingOf t_changesOf t_changes t_heard t_heardHeir t_heardOne t_heardTwo t_heardMore t_pageLength t_page g_t_says g_t_dealt t_farOf t_endMany t_endMost t_endLeast t_endFew t_seedNow t_saved t_isKept t_keptWill t_keptChanges t_keptHeard t_keptWorth t_keptThing t_keptChangesOf t_keptHeir t_keptOne t_keptTwo t_keptMore t_h) none) (F0 m 8 ls [])) (back_21 : Int32 → Int32 → Int32 → Int32 → (Nat → Int32) → (Nat → Int32) → Option ((Nat → Int32) × (Nat → Int32))) (hb_21 : ∀ (x1 : Int32) (x2 : Int32) (x3 : Int32) (x4 : Int32) (t_says : Nat → Int32) (t_dealt : Nat → Int32) (H : Heap) (locs : List Loc) (ls : Array Slot), va_P D vwCl (w_X7 cI cB ad_t t_wills t_heirs t_kindOf t_worthOf t_thingOf t_changesOf t_changes t_heard t_heardHeir t_heardOne t_heardTwo t_heardMore t_pageLength t_page t_says t_dealt t_farOf t_endMany t_endMost t_endLeast t_endFew t_seedNow t_saved t_isKept t_keptWill t_keptChanges t_keptHeard t_keptWorth t_keptThing t_keptChangesOf t_keptHeir t_keptOne t_keptTwo t_keptMore t_h) H → va_D A (w_X7 cI cB ad_t t_wills t_heirs t_kindOf t_worthOf t_thingOf t_changesOf t_changes t_heard t_heardHeir t_heardOne t_heardTwo t_heardMore t_pageLength t_page t_says t_dealt t_farOf t_endMany t_endMost t_endLeast t_endFew t_seedNow t_saved t_isKept t_keptWill t_keptChanges t_keptHeard t_keptWorth t_keptThing t_keptChangesOf t_keptHeir t_keptOne t_keptTwo t_keptMore t_h) → va_S A s.heap H locs → lv_has ls 6 [(0, .ref (ad_t 0)), (1, .int x1), (2, .int x2), (3, .int x3), (4, .int x4)] → back_21 x1 x2 x3 x4 t_says t_dealt = some (g_t_says, g_t_dealt) → W p l e rm_X7_layDeal s m args below meth c H locs 0 0 (Zq D below args s A (w_X7 cI cB ad_t t_wills t_heirs t_kindOf t_worthOf t_thingOf t_changesOf t_changes t_heard t_heardHeir t_heardOne t_heardTwo t_heardMore t_pageLength t_page g_t_says g_t_dealt t_farOf t_endMany t_endMost t_endLeast t_endFew t_seedNow t_saved t_isKept t_keptWill t_keptChanges t_keptHeard t_keptWorth t_keptThing t_keptChangesOf t_keptHeir t_keptOne t_keptTwo t_keptMore t_h) none) (F0 m 21 ls [])) : ∀ (x1 : Int32) (x2 : Int32) (x4 : Int32) (k0 : Int32) (t_says : Nat → Int32) (t_dealt : Nat → Int32) (H : Heap) (locs : List Loc) (ls : Array Slot), va_P D vwCl (w_X7 cI cB ad_t t_wills t_heirs t_kindOf t_worthOf t_thingOf t_changesOf t_changes t_heard t_heardHeir t_heardOne t_heardTwo t_heardMore t_pageLength t_page t_says t_dealt t_farOf t_endMany t_endMost t_endLeast t_endFew t_seedNow t_saved t_isKept t_keptWill t_keptChanges t_keptHeard t_keptWorth t_keptThing t_keptChangesOf t_keptHeir t_keptOne t_keptTwo t_keptMore t_h) H → va_D A (w_X7 cI cB ad_t t_wills t_heirs t_kindOf t_worthOf t_thingOf t_changesOf t_changes t_heard t_heardHeir t_heardOne t_heardTwo t_heardMore t_pageLength t_page t_says t_dealt t_farOf t_endMany t_endMost t_endLeast t_endFew t_seedNow t_saved t_isKept t_keptWill t_keptChanges t_keptHeard t_keptWorth t_keptThing t_keptChangesOf t_keptHeir t_keptOne t_keptTwo t_keptMore t_h) → va_S A s.heap H locs → lv_has ls 6 [(0, .ref (ad_t 0)), (1, .int x1), (2, .int x2), (4, .int x4)] → f_X7_layDeal_83 t_heirs t_kindOf t_worthOf back_8 back_21 x1 x2 x4 k0 t_says t_dealt = some (g_t_says, g_t_dealt) → W p l e rm_X7_layDeal s m args below meth c H locs 0 0 (Zq D below args s A (w_X7 cI cB ad_t t_wills t_heirs t_kindOf t_worthOf t_thingOf t_changesOf t_changes t_heard t_heardHeir t_heardOne t_heardTwo t_heardMore t_pageLength t_page g_t_says g_t_dealt t_farOf t_endMany t_endMost t_endLeast t_endFew t_seedNow t_saved t_isKept t_keptWill t_keptChanges t_keptHeard t_keptWorth t_keptThing t_keptChangesOf t_keptHeir t_keptOne t_keptTwo t_keptMore t_h) none) (F0 m 83 ls [.int k0]) := by
  obtain ⟨hx, hb, hml, hown, hts, hrt, hlocks, hK, hA, hZ⟩ := id F
  intro x1 x2 x4 k0 t_says t_dealt H locs ls hP hD hS hl hf
  refine lv_istore_n (lv' := [(3, .int k0), (0, .ref (ad_t 0)), (1, .int x1), (2, .int x2), (4, .int x4)]) hx hb dX7_layDeal_83 rfl hl (by decide) rfl (fun ls hl => ?_)
  refine lv_iinc (v := (x4 + 1)) (lv' := [(4, .int (x4 + 1)), (3, .int k0), (0, .ref (ad_t 0)), (1, .int x1), (2, .int x2)]) hx hb dX7_layDeal_84 hl (k := 4) rfl rfl (by decide) rfl (fun ls hl => ?_)
  refine lv_goto (tgt := 21) hx hb dX7_layDeal_87 (by decide) ?_
  exact hb_21 x1 x2 k0 (x4 + 1) t_says t_dealt H locs ls hP hD hS (lv_sub hl [2, 3, 4, 1, 0] rfl) hf

set_option maxHeartbeats 4000000 in
set_option maxRecDepth 100000 in
theorem b_X7_layDeal_82 {p : Program} {l : Launch} {e : Env} {s : State} {m : MethodId} {args : Array Value} {below : List Frame} {meth : Method} {c : Code} {D : va_G} {cI cB : ClassId} {kK kV : Nat → Nat} {A : Nat → Prop} (F : Fx p m c s meth args cX7_layDeal 6 RX7 wsX7_layDeal none D cI cB kK kV A) {ad_t : Nat → Nat} {t_wills : Int32} {t_heirs : Int32} {t_kindOf : Nat → Int32} {t_worthOf : Nat → Int32} {t_thingOf : Nat → Int32} {t_changesOf : Nat → Int32} {t_changes : Int32} {t_heard : Int32} {t_heardHeir : Nat → Int32} {t_heardOne : Nat → Int32} {t_heardTwo : Nat → Int32} {t_heardMore : Nat → Int32} {t_pageLength : Int32} {t_page : Nat → Int32} {t_farOf : Nat → Int32} {t_endMany : Int32} {t_endMost : Int32} {t_endLeast : Int32} {t_endFew : Int32} {t_seedNow : Int64} {t_saved : Nat → Int32} {t_isKept : Int32} {t_keptWill : Int32} {t_keptChanges : Int32} {t_keptHeard : Int32} {t_keptWorth : Nat → Int32} {t_keptThing : Nat → Int32} {t_keptChangesOf : Nat → Int32} {t_keptHeir : Nat → Int32} {t_keptOne : Nat → Int32} {t_keptTwo : Nat → Int32} {t_keptMore : Nat → Int32} {t_h : Int64}  {g_t_says : Nat → Int32} {g_t_dealt : Nat → Int32} (back_8 : Int32 → Int32 → (Nat → Int32) → (Nat → Int32) → Option ((Nat → Int32) × (Nat → Int32))) (hb_8 : ∀ (x1 : Int32) (x2 : Int32) (t_says : Nat → Int32) (t_dealt : Nat → Int32) (H : Heap) (locs : List Loc) (ls : Array Slot), va_P D vwCl (w_X7 cI cB ad_t t_wills t_heirs t_kindOf t_worthOf t_thingOf t_changesOf t_changes t_heard t_heardHeir t_heardOne t_heardTwo t_heardMore t_pageLength t_page t_says t_dealt t_farOf t_endMany t_endMost t_endLeast t_endFew t_seedNow t_saved t_isKept t_keptWill t_keptChanges t_keptHeard t_keptWorth t_keptThing t_keptChangesOf t_keptHeir t_keptOne t_keptTwo t_keptMore t_h) H → va_D A (w_X7 cI cB ad_t t_wills t_heirs t_kindOf t_worthOf t_thingOf t_changesOf t_changes t_heard t_heardHeir t_heardOne t_heardTwo t_heardMore t_pageLength t_page t_says t_dealt t_farOf t_endMany t_endMost t_endLeast t_endFew t_seedNow t_saved t_isKept t_keptWill t_keptChanges t_keptHeard t_keptWorth t_keptThing t_keptChangesOf t_keptHeir t_keptOne t_keptTwo t_keptMore t_h) → va_S A s.heap H locs → lv_has ls 6 [(0, .ref (ad_t 0)), (1, .int x1), (2, .int x2)] → back_8 x1 x2 t_says t_dealt = some (g_t_says, g_t_dealt) → W p l e rm_X7_layDeal s m args below meth c H locs 0 0 (Zq D below args s A (w_X7 cI cB ad_t t_wills t_heirs t_kindOf t_worthOf t_thingOf t_changesOf t_changes t_heard t_heardHeir t_heardOne t_heardTwo t_heardMore t_pageLength t_page g_t_says g_t_dealt t_farOf t_endMany t_endMost t_endLeast t_endFew t_seedNow t_saved t_isKept t_keptWill t_keptChanges t_keptHeard t_keptWorth t_keptThing t_keptChangesOf t_keptHeir t_keptOne t_keptTwo t_keptMore t_h) none) (F0 m 8 ls [])) (back_21 : Int32 → Int32 → Int32 → Int32 → (Nat → Int32) → (Nat → Int32) → Option ((Nat → Int32) × (Nat → Int32))) (hb_21 : ∀ (x1 : Int32) (x2 : Int32) (x3 : Int32) (x4 : Int32) (t_says : Nat → Int32) (t_dealt : Nat → Int32) (H : Heap) (locs : List Loc) (ls : Array Slot), va_P D vwCl (w_X7 cI cB ad_t t_wills t_heirs t_kindOf t_worthOf t_thingOf t_changesOf t_changes t_heard t_heardHeir t_heardOne t_heardTwo t_heardMore t_pageLength t_page t_says t_dealt t_farOf t_endMany t_endMost t_endLeast t_endFew t_seedNow t_saved t_isKept t_keptWill t_keptChanges t_keptHeard t_keptWorth t_keptThing t_keptChangesOf t_keptHeir t_keptOne t_keptTwo t_keptMore t_h) H → va_D A (w_X7 cI cB ad_t t_wills t_heirs t_kindOf t_worthOf t_thingOf t_changesOf t_changes t_heard t_heardHeir t_heardOne t_heardTwo t_heardMore t_pageLength t_page t_says t_dealt t_farOf t_endMany t_endMost t_endLeast t_endFew t_seedNow t_saved t_isKept t_keptWill t_keptChanges t_keptHeard t_keptWorth t_keptThing t_keptChangesOf t_keptHeir t_keptOne t_keptTwo t_keptMore t_h) → va_S A s.heap H locs → lv_has ls 6 [(0, .ref (ad_t 0)), (1, .int x1), (2, .int x2), (3, .int x3), (4, .int x4)] → back_21 x1 x2 x3 x4 t_says t_dealt = some (g_t_says, g_t_dealt) → W p l e rm_X7_layDeal s m args below meth c H locs 0 0 (Zq D below args s A (w_X7 cI cB ad_t t_wills t_heirs t_kindOf t_worthOf t_thingOf t_changesOf t_changes t_heard t_heardHeir t_heardOne t_heardTwo t_heardMore t_pageLength t_page g_t_says g_t_dealt t_farOf t_endMany t_endMost t_endLeast t_endFew t_seedNow t_saved t_isKept t_keptWill t_keptChanges t_keptHeard t_keptWorth t_keptThing t_keptChangesOf t_keptHeir t_keptOne t_keptTwo t_keptMore t_h) none) (F0 m 21 ls [])) : ∀ (x1 : Int32) (x2 : Int32) (x3 : Int32) (x4 : Int32) (t_says : Nat → Int32) (t_dealt : Nat → Int32) (H : Heap) (locs : List Loc) (ls : Array Slot), va_P D vwCl (w_X7 cI cB ad_t t_wills t_heirs t_kindOf t_worthOf t_thingOf t_changesOf t_changes t_heard t_heardHeir t_heardOne t_heardTwo t_heardMore t_pageLength t_page t_says t_dealt t_farOf t_endMany t_endMost t_endLeast t_endFew t_seedNow t_saved t_isKept t_keptWill t_keptChanges t_keptHeard t_keptWorth t_keptThing t_keptChangesOf t_keptHeir t_keptOne t_keptTwo t_keptMore t_h) H → va_D A (w_X7 cI cB ad_t t_wills t_heirs t_kindOf t_worthOf t_thingOf t_changesOf t_changes t_heard t_heardHeir t_heardOne t_heardTwo t_heardMore t_pageLength t_page t_says t_dealt t_farOf t_endMany t_endMost t_endLeast t_endFew t_seedNow t_saved t_isKept t_keptWill t_keptChanges t_keptHeard t_keptWorth t_keptThing t_keptChangesOf t_keptHeir t_keptOne t_keptTwo t_keptMore t_h) → va_S A s.heap H locs → lv_has ls 6 [(0, .ref (ad_t 0)), (1, .int x1), (2, .int x2), (3, .int x3), (4, .int x4)] → f_X7_layDeal_82 t_heirs t_kindOf t_worthOf back_8 back_21 x1 x2 x3 x4 t_says t_dealt = some (g_t_says, g_t_dealt) → W p l e rm_X7_layDeal s m args below meth c H locs 0 0 (Zq D below args s A (w_X7 cI cB ad_t t_wills t_heirs t_kindOf t_worthOf t_thingOf t_changesOf t_changes t_heard t_heardHeir t_heardOne t_heardTwo t_heardMore t_pageLength t_page g_t_says g_t_dealt t_farOf t_endMany t_endMost t_endLeast t_endFew t_seedNow t_saved t_isKept t_keptWill t_keptChanges t_keptHeard t_keptWorth t_keptThing t_keptChangesOf t_keptHeir t_keptOne t_keptTwo t_keptMore t_h) none) (F0 m 82 ls []) := by
  obtain ⟨hx, hb, hml, hown, hts, hrt, hlocks, hK, hA, hZ⟩ := id F
  intro x1 x2 x3 x4 t_says t_dealt H locs ls hP hD hS hl hf
  refine lv_iload_n hx hb dX7_layDeal_82 rfl (lv_at hl 3 rfl) ?_
  exact b_X7_layDeal_83 F back_8 hb_8 back_21 hb_21 x1 x2 x4 x3 t_says t_dealt H locs ls hP hD hS (lv_sub hl [0, 1, 2, 4] rfl) hf

set_option maxHeartbeats 4000000 in
set_option maxRecDepth 100000 in
theorem b_X7_layDeal_61 {p : Program} {l : Launch} {e : Env} {s : State} {m : MethodId} {args : Array Value} {below : List Frame} {meth : Method} {c : Code} {D : va_G} {cI cB : ClassId} {kK kV : Nat → Nat} {A : Nat → Prop} (F : Fx p m c s meth args cX7_layDeal 6 RX7 wsX7_layDeal none D cI cB kK kV A) {ad_t : Nat → Nat} {t_wills : Int32} {t_heirs : Int32} {t_kindOf : Nat → Int32} {t_worthOf : Nat → Int32} {t_thingOf : Nat → Int32} {t_changesOf : Nat → Int32} {t_changes : Int32} {t_heard : Int32} {t_heardHeir : Nat → Int32} {t_heardOne : Nat → Int32} {t_heardTwo : Nat → Int32} {t_heardMore : Nat → Int32} {t_pageLength : Int32} {t_page : Nat → Int32} {t_farOf : Nat → Int32} {t_endMany : Int32} {t_endMost : Int32} {t_endLeast : Int32} {t_endFew : Int32} {t_seedNow : Int64} {t_saved : Nat → Int32} {t_isKept : Int32} {t_keptWill : Int32} {t_keptChanges : Int32} {t_keptHeard : Int32} {t_keptWorth : Nat → Int32} {t_keptThing : Nat → Int32} {t_keptChangesOf : Nat → Int32} {t_keptHeir : Nat → Int32} {t_keptOne : Nat → Int32} {t_keptTwo : Nat → Int32} {t_keptMore : Nat → Int32} {t_h : Int64}  {g_t_says : Nat → Int32} {g_t_dealt : Nat → Int32} (back_8 : Int32 → Int32 → (Nat → Int32) → (Nat → Int32) → Option ((Nat → Int32) × (Nat → Int32))) (hb_8 : ∀ (x1 : Int32) (x2 : Int32) (t_says : Nat → Int32) (t_dealt : Nat → Int32) (H : Heap) (locs : List Loc) (ls : Array Slot), va_P D vwCl (w_X7 cI cB ad_t t_wills t_heirs t_kindOf t_worthOf t_thingOf t_changesOf t_changes t_heard t_heardHeir t_heardOne t_heardTwo t_heardMore t_pageLength t_page t_says t_dealt t_farOf t_endMany t_endMost t_endLeast t_endFew t_seedNow t_saved t_isKept t_keptWill t_keptChanges t_keptHeard t_keptWorth t_keptThing t_keptChangesOf t_keptHeir t_keptOne t_keptTwo t_keptMore t_h) H → va_D A (w_X7 cI cB ad_t t_wills t_heirs t_kindOf t_worthOf t_thingOf t_changesOf t_changes t_heard t_heardHeir t_heardOne t_heardTwo t_heardMore t_pageLength t_page t_says t_dealt t_farOf t_endMany t_endMost t_endLeast t_endFew t_seedNow t_saved t_isKept t_keptWill t_keptChanges t_keptHeard t_keptWorth t_keptThing t_keptChangesOf t_keptHeir t_keptOne t_keptTwo t_keptMore t_h) → va_S A s.heap H locs → lv_has ls 6 [(0, .ref (ad_t 0)), (1, .int x1), (2, .int x2)] → back_8 x1 x2 t_says t_dealt = some (g_t_says, g_t_dealt) → W p l e rm_X7_layDeal s m args below meth c H locs 0 0 (Zq D below args s A (w_X7 cI cB ad_t t_wills t_heirs t_kindOf t_worthOf t_thingOf t_changesOf t_changes t_heard t_heardHeir t_heardOne t_heardTwo t_heardMore t_pageLength t_page g_t_says g_t_dealt t_farOf t_endMany t_endMost t_endLeast t_endFew t_seedNow t_saved t_isKept t_keptWill t_keptChanges t_keptHeard t_keptWorth t_keptThing t_keptChangesOf t_keptHeir t_keptOne t_keptTwo t_keptMore t_h) none) (F0 m 8 ls [])) (back_21 : Int32 → Int32 → Int32 → Int32 → (Nat → Int32) → (Nat → Int32) → Option ((Nat → Int32) × (Nat → Int32))) (hb_21 : ∀ (x1 : Int32) (x2 : Int32) (x3 : Int32) (x4 : Int32) (t_says : Nat → Int32) (t_dealt : Nat → Int32) (H : Heap) (locs : List Loc) (ls : Array Slot), va_P D vwCl (w_X7 cI cB ad_t t_wills t_heirs t_kindOf t_worthOf t_thingOf t_changesOf t_changes t_heard t_heardHeir t_heardOne t_heardTwo t_heardMore t_pageLength t_page t_says t_dealt t_farOf t_endMany t_endMost t_endLeast t_endFew t_seedNow t_saved t_isKept t_keptWill t_keptChanges t_keptHeard t_keptWorth t_keptThing t_keptChangesOf t_keptHeir t_keptOne t_keptTwo t_keptMore t_h) H → va_D A (w_X7 cI cB ad_t t_wills t_heirs t_kindOf t_worthOf t_thingOf t_changesOf t_changes t_heard t_heardHeir t_heardOne t_heardTwo t_heardMore t_pageLength t_page t_says t_dealt t_farOf t_endMany t_endMost t_endLeast t_endFew t_seedNow t_saved t_isKept t_keptWill t_keptChanges t_keptHeard t_keptWorth t_keptThing t_keptChangesOf t_keptHeir t_keptOne t_keptTwo t_keptMore t_h) → va_S A s.heap H locs → lv_has ls 6 [(0, .ref (ad_t 0)), (1, .int x1), (2, .int x2), (3, .int x3), (4, .int x4)] → back_21 x1 x2 x3 x4 t_says t_dealt = some (g_t_says, g_t_dealt) → W p l e rm_X7_layDeal s m args below meth c H locs 0 0 (Zq D below args s A (w_X7 cI cB ad_t t_wills t_heirs t_kindOf t_worthOf t_thingOf t_changesOf t_changes t_heard t_heardHeir t_heardOne t_heardTwo t_heardMore t_pageLength t_page g_t_says g_t_dealt t_farOf t_endMany t_endMost t_endLeast t_endFew t_seedNow t_saved t_isKept t_keptWill t_keptChanges t_keptHeard t_keptWorth t_keptThing t_keptChangesOf t_keptHeir t_keptOne t_keptTwo t_keptMore t_h) none) (F0 m 21 ls [])) : ∀ (x1 : Int32) (x2 : Int32) (x3 : Int32) (x4 : Int32) (k0 : Int32) (t_says : Nat → Int32) (t_dealt : Nat → Int32) (H : Heap) (locs : List Loc) (ls : Array Slot), va_P D vwCl (w_X7 cI cB ad_t t_wills t_heirs t_kindOf t_worthOf t_thingOf t_changesOf t_changes t_heard t_heardHeir t_heardOne t_heardTwo t_heardMore t_pageLength t_page t_says t_dealt t_farOf t_endMany t_endMost t_endLeast t_endFew t_seedNow t_saved t_isKept t_keptWill t_keptChanges t_keptHeard t_keptWorth t_keptThing t_keptChangesOf t_keptHeir t_keptOne t_keptTwo t_keptMore t_h) H → va_D A (w_X7 cI cB ad_t t_wills t_heirs t_kindOf t_worthOf t_thingOf t_changesOf t_changes t_heard t_heardHeir t_heardOne t_heardTwo t_heardMore t_pageLength t_page t_says t_dealt t_farOf t_endMany t_endMost t_endLeast t_endFew t_seedNow t_saved t_isKept t_keptWill t_keptChanges t_keptHeard t_keptWorth t_keptThing t_keptChangesOf t_keptHeir t_keptOne t_keptTwo t_keptMore t_h) → va_S A s.heap H locs → lv_has ls 6 [(0, .ref (ad_t 0)), (1, .int x1), (2, .int x2), (3, .int x3), (4, .int x4)] → f_X7_layDeal_61 t_heirs t_kindOf t_worthOf back_8 back_21 x1 x2 x3 x4 k0 t_says t_dealt = some (g_t_says, g_t_dealt) → W p l e rm_X7_layDeal s m args below meth c H locs 0 0 (Zq D below args s A (w_X7 cI cB ad_t t_wills t_heirs t_kindOf t_worthOf t_thingOf t_changesOf t_changes t_heard t_heardHeir t_heardOne t_heardTwo t_heardMore t_pageLength t_page g_t_says g_t_dealt t_farOf t_endMany t_endMost t_endLeast t_endFew t_seedNow t_saved t_isKept t_keptWill t_keptChanges t_keptHeard t_keptWorth t_keptThing t_keptChangesOf t_keptHeir t_keptOne t_keptTwo t_keptMore t_h) none) (F0 m 61 ls [.int k0]) := by
  obtain ⟨hx, hb, hml, hown, hts, hrt, hlocks, hK, hA, hZ⟩ := id F
  intro x1 x2 x3 x4 k0 t_says t_dealt H locs ls hP hD hS hl hf
  refine lv_istore (lv' := [(5, .int k0), (0, .ref (ad_t 0)), (1, .int x1), (2, .int x2), (3, .int x3), (4, .int x4)]) hx hb dX7_layDeal_61 hl (by decide) rfl (fun ls hl => ?_)
  refine lv_iload_n hx hb dX7_layDeal_63 rfl (lv_at hl 2 rfl) ?_
  refine lv_iload hx hb dX7_layDeal_64 (lv_at hl 5 rfl) ?_
  obtain ⟨v1, e2, hf⟩ := bnd hf
  refine cS F hP hD hS (k_X7_isIn l  x1 x4 e2) gX7_layDeal_X7_isIn rfl ⟨rfl, rfl⟩ nd_X7_isIn ⟨Nat.le_of_ble_eq_true rfl, Nat.le_of_ble_eq_true rfl⟩ rfl hl.1 rfl (Nat.le_of_ble_eq_true rfl) dX7_layDeal_66 (pmE (w_X7 cI cB ad_t t_wills t_heirs t_kindOf t_worthOf t_thingOf t_changesOf t_changes t_heard t_heardHeir t_heardOne t_heardTwo t_heardMore t_pageLength t_page t_says t_dealt t_farOf t_endMany t_endMost t_endLeast t_endFew t_seedNow t_saved t_isKept t_keptWill t_keptChanges t_keptHeard t_keptWorth t_keptThing t_keptChangesOf t_keptHeir t_keptOne t_keptTwo t_keptMore t_h)) (pmE (w_X7 cI cB ad_t t_wills t_heirs t_kindOf t_worthOf t_thingOf t_changesOf t_changes t_heard t_heardHeir t_heardOne t_heardTwo t_heardMore t_pageLength t_page t_says t_dealt t_farOf t_endMany t_endMost t_endLeast t_endFew t_seedNow t_saved t_isKept t_keptWill t_keptChanges t_keptHeard t_keptWorth t_keptThing t_keptChangesOf t_keptHeir t_keptOne t_keptTwo t_keptMore t_h)) (fun H locs hP hD hS => ?_)
  refine lv_if_ne (tgt := 82) hx hb dX7_layDeal_69 (by decide) (fun c3 => ?_) (fun c3 => ?_)
  · replace hf := (if_neg c3).symm.trans hf
    exact b_X7_layDeal_82 F back_8 hb_8 back_21 hb_21 x1 x2 x3 x4 t_says t_dealt H locs ls hP hD hS (lv_sub hl [1, 2, 3, 4, 5] rfl) hf
  · replace hf := (if_pos c3).symm.trans hf
    refine lv_iload hx hb dX7_layDeal_72 (lv_at hl 0 rfl) ?_
    refine lv_if_eq (tgt := 82) hx hb dX7_layDeal_74 (by decide) (fun c4 => ?_) (fun c4 => ?_)
    · replace hf := (if_pos c4).symm.trans hf
      exact b_X7_layDeal_82 F back_8 hb_8 back_21 hb_21 x1 x2 x3 x4 t_says t_dealt H locs ls hP hD hS (lv_sub hl [1, 2, 3, 4, 5] rfl) hf
    · replace hf := (if_neg c4).symm.trans hf
      refine lv_iload hx hb dX7_layDeal_77 (lv_at hl 5 rfl) ?_
      refine lv_goto (tgt := 83) hx hb dX7_layDeal_79 (by decide) ?_
      exact b_X7_layDeal_83 F back_8 hb_8 back_21 hb_21 x1 x2 x4 x4 t_says t_dealt H locs ls hP hD hS (lv_sub hl [1, 2, 3, 5] rfl) hf

set_option maxHeartbeats 4000000 in
set_option maxRecDepth 100000 in
theorem b_X7_layDeal_56 {p : Program} {l : Launch} {e : Env} {s : State} {m : MethodId} {args : Array Value} {below : List Frame} {meth : Method} {c : Code} {D : va_G} {cI cB : ClassId} {kK kV : Nat → Nat} {A : Nat → Prop} (F : Fx p m c s meth args cX7_layDeal 6 RX7 wsX7_layDeal none D cI cB kK kV A) {ad_t : Nat → Nat} {t_wills : Int32} {t_heirs : Int32} {t_kindOf : Nat → Int32} {t_worthOf : Nat → Int32} {t_thingOf : Nat → Int32} {t_changesOf : Nat → Int32} {t_changes : Int32} {t_heard : Int32} {t_heardHeir : Nat → Int32} {t_heardOne : Nat → Int32} {t_heardTwo : Nat → Int32} {t_heardMore : Nat → Int32} {t_pageLength : Int32} {t_page : Nat → Int32} {t_farOf : Nat → Int32} {t_endMany : Int32} {t_endMost : Int32} {t_endLeast : Int32} {t_endFew : Int32} {t_seedNow : Int64} {t_saved : Nat → Int32} {t_isKept : Int32} {t_keptWill : Int32} {t_keptChanges : Int32} {t_keptHeard : Int32} {t_keptWorth : Nat → Int32} {t_keptThing : Nat → Int32} {t_keptChangesOf : Nat → Int32} {t_keptHeir : Nat → Int32} {t_keptOne : Nat → Int32} {t_keptTwo : Nat → Int32} {t_keptMore : Nat → Int32} {t_h : Int64}  {g_t_says : Nat → Int32} {g_t_dealt : Nat → Int32} (back_8 : Int32 → Int32 → (Nat → Int32) → (Nat → Int32) → Option ((Nat → Int32) × (Nat → Int32))) (hb_8 : ∀ (x1 : Int32) (x2 : Int32) (t_says : Nat → Int32) (t_dealt : Nat → Int32) (H : Heap) (locs : List Loc) (ls : Array Slot), va_P D vwCl (w_X7 cI cB ad_t t_wills t_heirs t_kindOf t_worthOf t_thingOf t_changesOf t_changes t_heard t_heardHeir t_heardOne t_heardTwo t_heardMore t_pageLength t_page t_says t_dealt t_farOf t_endMany t_endMost t_endLeast t_endFew t_seedNow t_saved t_isKept t_keptWill t_keptChanges t_keptHeard t_keptWorth t_keptThing t_keptChangesOf t_keptHeir t_keptOne t_keptTwo t_keptMore t_h) H → va_D A (w_X7 cI cB ad_t t_wills t_heirs t_kindOf t_worthOf t_thingOf t_changesOf t_changes t_heard t_heardHeir t_heardOne t_heardTwo t_heardMore t_pageLength t_page t_says t_dealt t_farOf t_endMany t_endMost t_endLeast t_endFew t_seedNow t_saved t_isKept t_keptWill t_keptChanges t_keptHeard t_keptWorth t_keptThing t_keptChangesOf t_keptHeir t_keptOne t_keptTwo t_keptMore t_h) → va_S A s.heap H locs → lv_has ls 6 [(0, .ref (ad_t 0)), (1, .int x1), (2, .int x2)] → back_8 x1 x2 t_says t_dealt = some (g_t_says, g_t_dealt) → W p l e rm_X7_layDeal s m args below meth c H locs 0 0 (Zq D below args s A (w_X7 cI cB ad_t t_wills t_heirs t_kindOf t_worthOf t_thingOf t_changesOf t_changes t_heard t_heardHeir t_heardOne t_heardTwo t_heardMore t_pageLength t_page g_t_says g_t_dealt t_farOf t_endMany t_endMost t_endLeast t_endFew t_seedNow t_saved t_isKept t_keptWill t_keptChanges t_keptHeard t_keptWorth t_keptThing t_keptChangesOf t_keptHeir t_keptOne t_keptTwo t_keptMore t_h) none) (F0 m 8 ls [])) (back_21 : Int32 → Int32 → Int32 → Int32 → (Nat → Int32) → (Nat → Int32) → Option ((Nat → Int32) × (Nat → Int32))) (hb_21 : ∀ (x1 : Int32) (x2 : Int32) (x3 : Int32) (x4 : Int32) (t_says : Nat → Int32) (t_dealt : Nat → Int32) (H : Heap) (locs : List Loc) (ls : Array Slot), va_P D vwCl (w_X7 cI cB ad_t t_wills t_heirs t_kindOf t_worthOf t_thingOf t_changesOf t_changes t_heard t_heardHeir t_heardOne t_heardTwo t_heardMore t_pageLength t_page t_says t_dealt t_farOf t_endMany t_endMost t_endLeast t_endFew t_seedNow t_saved t_isKept t_keptWill t_keptChanges t_keptHeard t_keptWorth t_keptThing t_keptChangesOf t_keptHeir t_keptOne t_keptTwo t_keptMore t_h) H → va_D A (w_X7 cI cB ad_t t_wills t_heirs t_kindOf t_worthOf t_thingOf t_changesOf t_changes t_heard t_heardHeir t_heardOne t_heardTwo t_heardMore t_pageLength t_page t_says t_dealt t_farOf t_endMany t_endMost t_endLeast t_endFew t_seedNow t_saved t_isKept t_keptWill t_keptChanges t_keptHeard t_keptWorth t_keptThing t_keptChangesOf t_keptHeir t_keptOne t_keptTwo t_keptMore t_h) → va_S A s.heap H locs → lv_has ls 6 [(0, .ref (ad_t 0)), (1, .int x1), (2, .int x2), (3, .int x3), (4, .int x4)] → back_21 x1 x2 x3 x4 t_says t_dealt = some (g_t_says, g_t_dealt) → W p l e rm_X7_layDeal s m args below meth c H locs 0 0 (Zq D below args s A (w_X7 cI cB ad_t t_wills t_heirs t_kindOf t_worthOf t_thingOf t_changesOf t_changes t_heard t_heardHeir t_heardOne t_heardTwo t_heardMore t_pageLength t_page g_t_says g_t_dealt t_farOf t_endMany t_endMost t_endLeast t_endFew t_seedNow t_saved t_isKept t_keptWill t_keptChanges t_keptHeard t_keptWorth t_keptThing t_keptChangesOf t_keptHeir t_keptOne t_keptTwo t_keptMore t_h) none) (F0 m 21 ls [])) : ∀ (x1 : Int32) (x2 : Int32) (x3 : Int32) (x4 : Int32) (t_says : Nat → Int32) (t_dealt : Nat → Int32) (H : Heap) (locs : List Loc) (ls : Array Slot), va_P D vwCl (w_X7 cI cB ad_t t_wills t_heirs t_kindOf t_worthOf t_thingOf t_changesOf t_changes t_heard t_heardHeir t_heardOne t_heardTwo t_heardMore t_pageLength t_page t_says t_dealt t_farOf t_endMany t_endMost t_endLeast t_endFew t_seedNow t_saved t_isKept t_keptWill t_keptChanges t_keptHeard t_keptWorth t_keptThing t_keptChangesOf t_keptHeir t_keptOne t_keptTwo t_keptMore t_h) H → va_D A (w_X7 cI cB ad_t t_wills t_heirs t_kindOf t_worthOf t_thingOf t_changesOf t_changes t_heard t_heardHeir t_heardOne t_heardTwo t_heardMore t_pageLength t_page t_says t_dealt t_farOf t_endMany t_endMost t_endLeast t_endFew t_seedNow t_saved t_isKept t_keptWill t_keptChanges t_keptHeard t_keptWorth t_keptThing t_keptChangesOf t_keptHeir t_keptOne t_keptTwo t_keptMore t_h) → va_S A s.heap H locs → lv_has ls 6 [(0, .ref (ad_t 0)), (1, .int x1), (2, .int x2), (3, .int x3), (4, .int x4)] → f_X7_layDeal_56 t_heirs t_kindOf t_worthOf back_8 back_21 x1 x2 x3 x4 t_says t_dealt = some (g_t_says, g_t_dealt) → W p l e rm_X7_layDeal s m args below meth c H locs 0 0 (Zq D below args s A (w_X7 cI cB ad_t t_wills t_heirs t_kindOf t_worthOf t_thingOf t_changesOf t_changes t_heard t_heardHeir t_heardOne t_heardTwo t_heardMore t_pageLength t_page g_t_says g_t_dealt t_farOf t_endMany t_endMost t_endLeast t_endFew t_seedNow t_saved t_isKept t_keptWill t_keptChanges t_keptHeard t_keptWorth t_keptThing t_keptChangesOf t_keptHeir t_keptOne t_keptTwo t_keptMore t_h) none) (F0 m 56 ls []) := by
  obtain ⟨hx, hb, hml, hown, hts, hrt, hlocks, hK, hA, hZ⟩ := id F
  intro x1 x2 x3 x4 t_says t_dealt H locs ls hP hD hS hl hf
  refine lv_iconst (v := 1) hx hb dX7_layDeal_56 (by decide) ?_
  refine lv_goto (tgt := 61) hx hb dX7_layDeal_57 (by decide) ?_
  exact b_X7_layDeal_61 F back_8 hb_8 back_21 hb_21 x1 x2 x3 x4 1 t_says t_dealt H locs ls hP hD hS (lv_sub hl [0, 1, 2, 3, 4] rfl) hf

set_option maxHeartbeats 4000000 in
set_option maxRecDepth 100000 in
theorem b_X7_layDeal_21 {p : Program} {l : Launch} {e : Env} {s : State} {m : MethodId} {args : Array Value} {below : List Frame} {meth : Method} {c : Code} {D : va_G} {cI cB : ClassId} {kK kV : Nat → Nat} {A : Nat → Prop} (F : Fx p m c s meth args cX7_layDeal 6 RX7 wsX7_layDeal none D cI cB kK kV A) {ad_t : Nat → Nat} {t_wills : Int32} {t_heirs : Int32} {t_kindOf : Nat → Int32} {t_worthOf : Nat → Int32} {t_thingOf : Nat → Int32} {t_changesOf : Nat → Int32} {t_changes : Int32} {t_heard : Int32} {t_heardHeir : Nat → Int32} {t_heardOne : Nat → Int32} {t_heardTwo : Nat → Int32} {t_heardMore : Nat → Int32} {t_pageLength : Int32} {t_page : Nat → Int32} {t_farOf : Nat → Int32} {t_endMany : Int32} {t_endMost : Int32} {t_endLeast : Int32} {t_endFew : Int32} {t_seedNow : Int64} {t_saved : Nat → Int32} {t_isKept : Int32} {t_keptWill : Int32} {t_keptChanges : Int32} {t_keptHeard : Int32} {t_keptWorth : Nat → Int32} {t_keptThing : Nat → Int32} {t_keptChangesOf : Nat → Int32} {t_keptHeir : Nat → Int32} {t_keptOne : Nat → Int32} {t_keptTwo : Nat → Int32} {t_keptMore : Nat → Int32} {t_h : Int64}  {g_t_says : Nat → Int32} {g_t_dealt : Nat → Int32} (back_8 : Int32 → Int32 → (Nat → Int32) → (Nat → Int32) → Option ((Nat → Int32) × (Nat → Int32))) (hb_8 : ∀ (x1 : Int32) (x2 : Int32) (t_says : Nat → Int32) (t_dealt : Nat → Int32) (H : Heap) (locs : List Loc) (ls : Array Slot), va_P D vwCl (w_X7 cI cB ad_t t_wills t_heirs t_kindOf t_worthOf t_thingOf t_changesOf t_changes t_heard t_heardHeir t_heardOne t_heardTwo t_heardMore t_pageLength t_page t_says t_dealt t_farOf t_endMany t_endMost t_endLeast t_endFew t_seedNow t_saved t_isKept t_keptWill t_keptChanges t_keptHeard t_keptWorth t_keptThing t_keptChangesOf t_keptHeir t_keptOne t_keptTwo t_keptMore t_h) H → va_D A (w_X7 cI cB ad_t t_wills t_heirs t_kindOf t_worthOf t_thingOf t_changesOf t_changes t_heard t_heardHeir t_heardOne t_heardTwo t_heardMore t_pageLength t_page t_says t_dealt t_farOf t_endMany t_endMost t_endLeast t_endFew t_seedNow t_saved t_isKept t_keptWill t_keptChanges t_keptHeard t_keptWorth t_keptThing t_keptChangesOf t_keptHeir t_keptOne t_keptTwo t_keptMore t_h) → va_S A s.heap H locs → lv_has ls 6 [(0, .ref (ad_t 0)), (1, .int x1), (2, .int x2)] → back_8 x1 x2 t_says t_dealt = some (g_t_says, g_t_dealt) → W p l e rm_X7_layDeal s m args below meth c H locs 0 0 (Zq D below args s A (w_X7 cI cB ad_t t_wills t_heirs t_kindOf t_worthOf t_thingOf t_changesOf t_changes t_heard t_heardHeir t_heardOne t_heardTwo t_heardMore t_pageLength t_page g_t_says g_t_dealt t_farOf t_endMany t_endMost t_endLeast t_endFew t_seedNow t_saved t_isKept t_keptWill t_keptChanges t_keptHeard t_keptWorth t_keptThing t_keptChangesOf t_keptHeir t_keptOne t_keptTwo t_keptMore t_h) none) (F0 m 8 ls [])) : ∀ (n : Nat), ∀ (x1 : Int32) (x2 : Int32) (x3 : Int32) (x4 : Int32) (t_says : Nat → Int32) (t_dealt : Nat → Int32) (H : Heap) (locs : List Loc) (ls : Array Slot), va_P D vwCl (w_X7 cI cB ad_t t_wills t_heirs t_kindOf t_worthOf t_thingOf t_changesOf t_changes t_heard t_heardHeir t_heardOne t_heardTwo t_heardMore t_pageLength t_page t_says t_dealt t_farOf t_endMany t_endMost t_endLeast t_endFew t_seedNow t_saved t_isKept t_keptWill t_keptChanges t_keptHeard t_keptWorth t_keptThing t_keptChangesOf t_keptHeir t_keptOne t_keptTwo t_keptMore t_h) H → va_D A (w_X7 cI cB ad_t t_wills t_heirs t_kindOf t_worthOf t_thingOf t_changesOf t_changes t_heard t_heardHeir t_heardOne t_heardTwo t_heardMore t_pageLength t_page t_says t_dealt t_farOf t_endMany t_endMost t_endLeast t_endFew t_seedNow t_saved t_isKept t_keptWill t_keptChanges t_keptHeard t_keptWorth t_keptThing t_keptChangesOf t_keptHeir t_keptOne t_keptTwo t_keptMore t_h) → va_S A s.heap H locs → lv_has ls 6 [(0, .ref (ad_t 0)), (1, .int x1), (2, .int x2), (3, .int x3), (4, .int x4)] → f_X7_layDeal_21 t_heirs t_kindOf t_worthOf back_8 n x1 x2 x3 x4 t_says t_dealt = some (g_t_says, g_t_dealt) → W p l e rm_X7_layDeal s m args below meth c H locs 0 0 (Zq D below args s A (w_X7 cI cB ad_t t_wills t_heirs t_kindOf t_worthOf t_thingOf t_changesOf t_changes t_heard t_heardHeir t_heardOne t_heardTwo t_heardMore t_pageLength t_page g_t_says g_t_dealt t_farOf t_endMany t_endMost t_endLeast t_endFew t_seedNow t_saved t_isKept t_keptWill t_keptChanges t_keptHeard t_keptWorth t_keptThing t_keptChangesOf t_keptHeir t_keptOne t_keptTwo t_keptMore t_h) none) (F0 m 21 ls []) := by
  obtain ⟨hx, hb, hml, hown, hts, hrt, hlocks, hK, hA, hZ⟩ := id F
  intro n
  induction n with
  | zero =>
    intro x1 x2 x3 x4 t_says t_dealt H locs ls hP hD hS hl hf
    cases hf
  | succ n ih =>
    intro x1 x2 x3 x4 t_says t_dealt H locs ls hP hD hS hl hf
    refine lv_iload hx hb dX7_layDeal_21 (lv_at hl 4 rfl) ?_
    refine lv_iconst (v := 4) hx hb dX7_layDeal_23 (by decide) ?_
    refine lv_icmp_ge (tgt := 90) hx hb dX7_layDeal_24 (by decide) (fun c1 => ?_) (fun c1 => ?_)
    · replace hf := (if_pos c1).symm.trans hf
      refine lv_iload_n hx hb dX7_layDeal_90 rfl (lv_at hl 1 rfl) ?_
      refine lv_iconst (v := 1) hx hb dX7_layDeal_91 (by decide) ?_
      refine lv_iload_n hx hb dX7_layDeal_92 rfl (lv_at hl 3 rfl) ?_
      refine lv_ishl hx hb dX7_layDeal_93 ?_
      refine lv_ior hx hb dX7_layDeal_94 ?_
      refine lv_istore_n (lv' := [(1, .int (x1 ||| ((1 : Int32) <<< (x3 &&& 31)))), (0, .ref (ad_t 0)), (2, .int x2), (3, .int x3), (4, .int x4)]) hx hb dX7_layDeal_95 rfl hl (by decide) rfl (fun ls hl => ?_)
      refine lv_aload_n hx hb dX7_layDeal_96 rfl (lv_at hl 1 rfl) ?_
      refine gf F hP in_X7_layDeal_X7 0 rfl rfl 15 (by decide) 3 rfl rfl dX7_layDeal_97 ?_
      refine lv_iload_n hx hb dX7_layDeal_100 rfl (lv_at hl 2 rfl) ?_
      refine lv_iload_n hx hb dX7_layDeal_101 rfl (lv_at hl 3 rfl) ?_
      obtain ⟨g2, eg2, hf⟩ := bnd hf
      refine ast F hP hD hS 11 rfl eg2 dX7_layDeal_102 (w_X7 cI cB ad_t t_wills t_heirs t_kindOf t_worthOf t_thingOf t_changesOf t_changes t_heard t_heardHeir t_heardOne t_heardTwo t_heardMore t_pageLength t_page t_says g2 t_farOf t_endMany t_endMost t_endLeast t_endFew t_seedNow t_saved t_isKept t_keptWill t_keptChanges t_keptHeard t_keptWorth t_keptThing t_keptChangesOf t_keptHeir t_keptOne t_keptTwo t_keptMore t_h) rfl (fun H locs hP hD hS => ?_)
      refine lv_iinc (v := (x2 + 1)) (lv' := [(2, .int (x2 + 1)), (1, .int (x1 ||| ((1 : Int32) <<< (x3 &&& 31)))), (0, .ref (ad_t 0)), (3, .int x3), (4, .int x4)]) hx hb dX7_layDeal_103 hl (k := 2) rfl rfl (by decide) rfl (fun ls hl => ?_)
      refine lv_goto (tgt := 8) hx hb dX7_layDeal_106 (by decide) ?_
      exact hb_8 (x1 ||| ((1 : Int32) <<< (x3 &&& 31))) (x2 + 1) t_says g2 H locs ls hP hD hS (lv_sub hl [2, 1, 0] rfl) hf
    · replace hf := (if_neg c1).symm.trans hf
      refine lv_iload_n hx hb dX7_layDeal_27 rfl (lv_at hl 3 rfl) ?_
      refine lv_iconst (v := (-1)) hx hb dX7_layDeal_28 (by decide) ?_
      refine lv_icmp_eq (tgt := 56) hx hb dX7_layDeal_29 (by decide) (fun c3 => ?_) (fun c3 => ?_)
      · replace hf := (if_pos c3).symm.trans hf
        exact b_X7_layDeal_56 F back_8 hb_8 (f_X7_layDeal_21 t_heirs t_kindOf t_worthOf back_8 n) ih x1 x2 x3 x4 t_says t_dealt H locs ls hP hD hS (lv_sub hl [0, 1, 2, 3, 4] rfl) hf
      · replace hf := (if_neg c3).symm.trans hf
        refine lv_aload_n hx hb dX7_layDeal_32 rfl (lv_at hl 0 rfl) ?_
        refine gf F hP in_X7_layDeal_X7 0 rfl rfl 14 (by decide) 2 rfl rfl dX7_layDeal_33 ?_
        refine lv_iconst (v := 4) hx hb dX7_layDeal_36 (by decide) ?_
        refine lv_iload_n hx hb dX7_layDeal_37 rfl (lv_at hl 2 rfl) ?_
        refine lv_imul hx hb dX7_layDeal_38 ?_
        refine lv_iload hx hb dX7_layDeal_39 (lv_at hl 4 rfl) ?_
        refine lv_iadd hx hb dX7_layDeal_41 ?_
        obtain ⟨v4, ev4, hf⟩ := bnd hf
        refine ald F hP 10 rfl ev4 dX7_layDeal_42 ?_
        refine lv_aload_n hx hb dX7_layDeal_43 rfl (lv_at hl 0 rfl) ?_
        refine gf F hP in_X7_layDeal_X7 0 rfl rfl 14 (by decide) 2 rfl rfl dX7_layDeal_44 ?_
        refine lv_iconst (v := 4) hx hb dX7_layDeal_47 (by decide) ?_
        refine lv_iload_n hx hb dX7_layDeal_48 rfl (lv_at hl 2 rfl) ?_
        refine lv_imul hx hb dX7_layDeal_49 ?_
        refine lv_iload_n hx hb dX7_layDeal_50 rfl (lv_at hl 3 rfl) ?_
        refine lv_iadd hx hb dX7_layDeal_51 ?_
        obtain ⟨v5, ev5, hf⟩ := bnd hf
        refine ald F hP 10 rfl ev5 dX7_layDeal_52 ?_
        refine lv_icmp_ge (tgt := 60) hx hb dX7_layDeal_53 (by decide) (fun c6 => ?_) (fun c6 => ?_)
        · replace hf := (if_pos c6).symm.trans hf
          refine lv_iconst (v := 0) hx hb dX7_layDeal_60 (by decide) ?_
          exact b_X7_layDeal_61 F back_8 hb_8 (f_X7_layDeal_21 t_heirs t_kindOf t_worthOf back_8 n) ih x1 x2 x3 x4 0 t_says t_dealt H locs ls hP hD hS (lv_sub hl [0, 1, 2, 3, 4] rfl) hf
        · replace hf := (if_neg c6).symm.trans hf
          exact b_X7_layDeal_56 F back_8 hb_8 (f_X7_layDeal_21 t_heirs t_kindOf t_worthOf back_8 n) ih x1 x2 x3 x4 t_says t_dealt H locs ls hP hD hS (lv_sub hl [0, 1, 2, 3, 4] rfl) hf

set_option maxHeartbeats 4000000 in
set_option maxRecDepth 100000 in
theorem b_X7_layDeal_8 {p : Program} {l : Launch} {e : Env} {s : State} {m : MethodId} {args : Array Value} {below : List Frame} {meth : Method} {c : Code} {D : va_G} {cI cB : ClassId} {kK kV : Nat → Nat} {A : Nat → Prop} (F : Fx p m c s meth args cX7_layDeal 6 RX7 wsX7_layDeal none D cI cB kK kV A) {ad_t : Nat → Nat} {t_wills : Int32} {t_heirs : Int32} {t_kindOf : Nat → Int32} {t_worthOf : Nat → Int32} {t_thingOf : Nat → Int32} {t_changesOf : Nat → Int32} {t_changes : Int32} {t_heard : Int32} {t_heardHeir : Nat → Int32} {t_heardOne : Nat → Int32} {t_heardTwo : Nat → Int32} {t_heardMore : Nat → Int32} {t_pageLength : Int32} {t_page : Nat → Int32} {t_farOf : Nat → Int32} {t_endMany : Int32} {t_endMost : Int32} {t_endLeast : Int32} {t_endFew : Int32} {t_seedNow : Int64} {t_saved : Nat → Int32} {t_isKept : Int32} {t_keptWill : Int32} {t_keptChanges : Int32} {t_keptHeard : Int32} {t_keptWorth : Nat → Int32} {t_keptThing : Nat → Int32} {t_keptChangesOf : Nat → Int32} {t_keptHeir : Nat → Int32} {t_keptOne : Nat → Int32} {t_keptTwo : Nat → Int32} {t_keptMore : Nat → Int32} {t_h : Int64}  {g_t_says : Nat → Int32} {g_t_dealt : Nat → Int32} : ∀ (n : Nat), ∀ (x1 : Int32) (x2 : Int32) (t_says : Nat → Int32) (t_dealt : Nat → Int32) (H : Heap) (locs : List Loc) (ls : Array Slot), va_P D vwCl (w_X7 cI cB ad_t t_wills t_heirs t_kindOf t_worthOf t_thingOf t_changesOf t_changes t_heard t_heardHeir t_heardOne t_heardTwo t_heardMore t_pageLength t_page t_says t_dealt t_farOf t_endMany t_endMost t_endLeast t_endFew t_seedNow t_saved t_isKept t_keptWill t_keptChanges t_keptHeard t_keptWorth t_keptThing t_keptChangesOf t_keptHeir t_keptOne t_keptTwo t_keptMore t_h) H → va_D A (w_X7 cI cB ad_t t_wills t_heirs t_kindOf t_worthOf t_thingOf t_changesOf t_changes t_heard t_heardHeir t_heardOne t_heardTwo t_heardMore t_pageLength t_page t_says t_dealt t_farOf t_endMany t_endMost t_endLeast t_endFew t_seedNow t_saved t_isKept t_keptWill t_keptChanges t_keptHeard t_keptWorth t_keptThing t_keptChangesOf t_keptHeir t_keptOne t_keptTwo t_keptMore t_h) → va_S A s.heap H locs → lv_has ls 6 [(0, .ref (ad_t 0)), (1, .int x1), (2, .int x2)] → f_X7_layDeal_8 t_heirs t_kindOf t_worthOf  n x1 x2 t_says t_dealt = some (g_t_says, g_t_dealt) → W p l e rm_X7_layDeal s m args below meth c H locs 0 0 (Zq D below args s A (w_X7 cI cB ad_t t_wills t_heirs t_kindOf t_worthOf t_thingOf t_changesOf t_changes t_heard t_heardHeir t_heardOne t_heardTwo t_heardMore t_pageLength t_page g_t_says g_t_dealt t_farOf t_endMany t_endMost t_endLeast t_endFew t_seedNow t_saved t_isKept t_keptWill t_keptChanges t_keptHeard t_keptWorth t_keptThing t_keptChangesOf t_keptHeir t_keptOne t_keptTwo t_keptMore t_h) none) (F0 m 8 ls []) := by
  obtain ⟨hx, hb, hml, hown, hts, hrt, hlocks, hK, hA, hZ⟩ := id F
  intro n
  induction n with
  | zero =>
    intro x1 x2 t_says t_dealt H locs ls hP hD hS hl hf
    cases hf
  | succ n ih =>
    intro x1 x2 t_says t_dealt H locs ls hP hD hS hl hf
    refine lv_iload_n hx hb dX7_layDeal_8 rfl (lv_at hl 2 rfl) ?_
    refine lv_aload_n hx hb dX7_layDeal_9 rfl (lv_at hl 0 rfl) ?_
    refine gf F hP in_X7_layDeal_X7 0 rfl rfl 1 (by decide) 1 rfl rfl dX7_layDeal_10 ?_
    refine lv_icmp_ge (tgt := 109) hx hb dX7_layDeal_13 (by decide) (fun c1 => ?_) (fun c1 => ?_)
    · replace hf := (if_pos c1).symm.trans hf
      replace hf : (some (t_says, t_dealt) : Option ((Nat → Int32) × (Nat → Int32))) = some (g_t_says, g_t_dealt) := hf
      cases hf
      exact ret_v F hP hS dX7_layDeal_109
    · replace hf := (if_neg c1).symm.trans hf
      refine lv_iconst (v := (-1)) hx hb dX7_layDeal_16 (by decide) ?_
      refine lv_istore_n (lv' := [(3, .int (-1)), (0, .ref (ad_t 0)), (1, .int x1), (2, .int x2)]) hx hb dX7_layDeal_17 rfl hl (by decide) rfl (fun ls hl => ?_)
      refine lv_iconst (v := 0) hx hb dX7_layDeal_18 (by decide) ?_
      refine lv_istore (lv' := [(4, .int 0), (3, .int (-1)), (0, .ref (ad_t 0)), (1, .int x1), (2, .int x2)]) hx hb dX7_layDeal_19 hl (by decide) rfl (fun ls hl => ?_)
      exact b_X7_layDeal_21 F (f_X7_layDeal_8 t_heirs t_kindOf t_worthOf  n) ih 300 x1 x2 (-1) 0 t_says t_dealt H locs ls hP hD hS (lv_sub hl [2, 3, 4, 1, 0] rfl) hf

set_option maxHeartbeats 4000000 in
set_option maxRecDepth 100000 in
theorem k_X7_layDeal (l : Launch) {D : va_G} {cI cB : ClassId} {kK kV : Nat → Nat} (ad_t : Nat → Nat) (t_wills : Int32) (t_heirs : Int32) (t_kindOf : Nat → Int32) (t_worthOf : Nat → Int32) (t_thingOf : Nat → Int32) (t_changesOf : Nat → Int32) (t_changes : Int32) (t_heard : Int32) (t_heardHeir : Nat → Int32) (t_heardOne : Nat → Int32) (t_heardTwo : Nat → Int32) (t_heardMore : Nat → Int32) (t_pageLength : Int32) (t_page : Nat → Int32) (t_says : Nat → Int32) (t_dealt : Nat → Int32) (t_farOf : Nat → Int32) (t_endMany : Int32) (t_endMost : Int32) (t_endLeast : Int32) (t_endFew : Int32) (t_seedNow : Int64) (t_saved : Nat → Int32) (t_isKept : Int32) (t_keptWill : Int32) (t_keptChanges : Int32) (t_keptHeard : Int32) (t_keptWorth : Nat → Int32) (t_keptThing : Nat → Int32) (t_keptChangesOf : Nat → Int32) (t_keptHeir : Nat → Int32) (t_keptOne : Nat → Int32) (t_keptTwo : Nat → Int32) (t_keptMore : Nat → Int32) (t_h : Int64)   {g_t_says : Nat → Int32} {g_t_dealt : Nat → Int32} (hf : f_X7_layDeal t_heirs t_kindOf t_worthOf t_says t_dealt = some (g_t_says, g_t_dealt)) : Ct l yX7_layDeal wsX7_layDeal rm_X7_layDeal D cI cB kK kV [.ref (ad_t 0)] (w_X7 cI cB ad_t t_wills t_heirs t_kindOf t_worthOf t_thingOf t_changesOf t_changes t_heard t_heardHeir t_heardOne t_heardTwo t_heardMore t_pageLength t_page t_says t_dealt t_farOf t_endMany t_endMost t_endLeast t_endFew t_seedNow t_saved t_isKept t_keptWill t_keptChanges t_keptHeard t_keptWorth t_keptThing t_keptChangesOf t_keptHeir t_keptOne t_keptTwo t_keptMore t_h) (w_X7 cI cB ad_t t_wills t_heirs t_kindOf t_worthOf t_thingOf t_changesOf t_changes t_heard t_heardHeir t_heardOne t_heardTwo t_heardMore t_pageLength t_page g_t_says g_t_dealt t_farOf t_endMany t_endMost t_endLeast t_endFew t_seedNow t_saved t_isKept t_keptWill t_keptChanges t_keptHeard t_keptWorth t_keptThing t_keptChangesOf t_keptHeir t_keptOne t_keptTwo t_keptMore t_h) none := by
  refine Ct.of (cc := cX7_layDeal) (maxL := 6) (ret := none) (by decide) rfl (Nat.le_of_ble_eq_true rfl) rfl ?_
  intro p e s m below meth c A ls F hP hD hS hl
  have hl : lv_has ls 6 [(0, .ref (ad_t 0))] := hl
  obtain ⟨hx, hb, hml, hown, hts, hrt, hlocks, hK, hA, hZ⟩ := id F
  obtain ⟨H, hH⟩ : ∃ H, H = s.heap := ⟨_, rfl⟩
  obtain ⟨locs, hLo⟩ : ∃ q : List Loc, q = [] := ⟨_, rfl⟩
  refine (?_ : W p l e rm_X7_layDeal s m _ below meth c s.heap [] 0 0 _ _)
  rw [← hH, ← hLo]
  rw [← hH] at hP
  have hS : va_S A s.heap H locs := by rw [hH, hLo]; exact hS
  refine lv_aload_n hx hb dX7_layDeal_0 rfl (lv_at hl 0 rfl) ?_
  obtain ⟨g1, e2, hf⟩ := bnd hf
  refine cV F hP hD hS (k_X7_laySays l ad_t t_wills t_heirs t_kindOf t_worthOf t_thingOf t_changesOf t_changes t_heard t_heardHeir t_heardOne t_heardTwo t_heardMore t_pageLength t_page t_says t_dealt t_farOf t_endMany t_endMost t_endLeast t_endFew t_seedNow t_saved t_isKept t_keptWill t_keptChanges t_keptHeard t_keptWorth t_keptThing t_keptChangesOf t_keptHeir t_keptOne t_keptTwo t_keptMore t_h  e2) gX7_layDeal_X7_laySays rfl ⟨rfl, rfl⟩ nd_X7_laySays ⟨Nat.le_of_ble_eq_true rfl, Nat.le_of_ble_eq_true rfl⟩ 0 7 rfl rfl rfl hl.1 rfl (Nat.le_of_ble_eq_true rfl) dX7_layDeal_1 (pm0 (w_X7 cI cB ad_t t_wills t_heirs t_kindOf t_worthOf t_thingOf t_changesOf t_changes t_heard t_heardHeir t_heardOne t_heardTwo t_heardMore t_pageLength t_page t_says t_dealt t_farOf t_endMany t_endMost t_endLeast t_endFew t_seedNow t_saved t_isKept t_keptWill t_keptChanges t_keptHeard t_keptWorth t_keptThing t_keptChangesOf t_keptHeir t_keptOne t_keptTwo t_keptMore t_h)) (pm0 (w_X7 cI cB ad_t t_wills t_heirs t_kindOf t_worthOf t_thingOf t_changesOf t_changes t_heard t_heardHeir t_heardOne t_heardTwo t_heardMore t_pageLength t_page g1 t_dealt t_farOf t_endMany t_endMost t_endLeast t_endFew t_seedNow t_saved t_isKept t_keptWill t_keptChanges t_keptHeard t_keptWorth t_keptThing t_keptChangesOf t_keptHeir t_keptOne t_keptTwo t_keptMore t_h)) (fun H locs hP hD hS => ?_)
  refine lv_iconst (v := 0) hx hb dX7_layDeal_4 (by decide) ?_
  refine lv_istore_n (lv' := [(1, .int 0), (0, .ref (ad_t 0))]) hx hb dX7_layDeal_5 rfl hl (by decide) rfl (fun ls hl => ?_)
  refine lv_iconst (v := 0) hx hb dX7_layDeal_6 (by decide) ?_
  refine lv_istore_n (lv' := [(2, .int 0), (1, .int 0), (0, .ref (ad_t 0))]) hx hb dX7_layDeal_7 rfl hl (by decide) rfl (fun ls hl => ?_)
  exact b_X7_layDeal_8 F 300 0 0 g1 t_dealt H locs ls hP hD hS (lv_sub hl [2, 1, 0] rfl) hf

/-! X7_dealNow -/
def rm_X7_dealNow : Room := { frames := 3, cells := 0, slots := 0, locals := 70 }
theorem in_X7_dealNow_X7 : ∀ w ∈ u_ws RX7 TX7 35, w ∈ wsX7_dealNow := fun _ h => List.mem_cons_of_mem _ (List.mem_append_right _ (h))
theorem nd_X7_dealNow : yX7_dealNow.cls = RX7 ∧ yX7_dealNow.cls ≠ "java/lang/invoke/MethodHandle" ∧ yX7_dealNow.cls ≠ "java/lang/invoke/VarHandle" ∧ (parseMethodDescriptor yX7_dealNow.desc).map (fun d => d.parameters.length) = some 0 := by decide +kernel
def f_X7_dealNow_37 (t_heirs : Int32) (t_kindOf : Nat → Int32) (t_worthOf : Nat → Int32) (back_8 : Int32 → Int32 → (Nat → Int32) → (Nat → Int32) → (Nat → Int32) → Option (Int32 × (Nat → Int32) × (Nat → Int32) × (Nat → Int32))) (x2 : Int32) (k0 : Int32) (k1 : Int32) (t_thingOf : Nat → Int32) (t_says : Nat → Int32) (t_dealt : Nat → Int32) : Option (Int32 × (Nat → Int32) × (Nat → Int32) × (Nat → Int32)) := (rd t_dealt 4 x2).bind (fun v1 => (wr t_thingOf 4 x2 v1).bind (fun g2 => back_8 (k1 + k0) (x2 + 1) g2 t_says t_dealt))
def f_X7_dealNow_8 (t_heirs : Int32) (t_kindOf : Nat → Int32) (t_worthOf : Nat → Int32)  : Nat → Int32 → Int32 → (Nat → Int32) → (Nat → Int32) → (Nat → Int32) → Option (Int32 × (Nat → Int32) × (Nat → Int32) × (Nat → Int32))
  | 0, _, _, _, _, _ => none
  | n + 1, x1, x2, t_thingOf, t_says, t_dealt => (if t_heirs ≤ x2 then some (x1, t_thingOf, t_says, t_dealt) else (rd t_thingOf 4 x2).bind (fun v2 => (rd t_dealt 4 x2).bind (fun v3 => (if v2 = v3 then f_X7_dealNow_37 t_heirs t_kindOf t_worthOf (f_X7_dealNow_8 t_heirs t_kindOf t_worthOf  n) x2 0 x1 t_thingOf t_says t_dealt else f_X7_dealNow_37 t_heirs t_kindOf t_worthOf (f_X7_dealNow_8 t_heirs t_kindOf t_worthOf  n) x2 1 x1 t_thingOf t_says t_dealt))))
def f_X7_dealNow (t_heirs : Int32) (t_kindOf : Nat → Int32) (t_worthOf : Nat → Int32) (t_thingOf : Nat → Int32) (t_says : Nat → Int32) (t_dealt : Nat → Int32)  : Option (Int32 × (Nat → Int32) × (Nat → Int32) × (Nat → Int32)) := (f_X7_layDeal t_heirs t_kindOf t_worthOf t_says t_dealt).bind (fun (g1, g2) => f_X7_dealNow_8 t_heirs t_kindOf t_worthOf 300 0 0 t_thingOf g1 g2)
set_option maxHeartbeats 4000000 in
set_option maxRecDepth 100000 in
theorem b_X7_dealNow_37 {p : Program} {l : Launch} {e : Env} {s : State} {m : MethodId} {args : Array Value} {below : List Frame} {meth : Method} {c : Code} {D : va_G} {cI cB : ClassId} {kK kV : Nat → Nat} {A : Nat → Prop} (F : Fx p m c s meth args cX7_dealNow 3 RX7 wsX7_dealNow (some .int) D cI cB kK kV A) {ad_t : Nat → Nat} {t_wills : Int32} {t_heirs : Int32} {t_kindOf : Nat → Int32} {t_worthOf : Nat → Int32} {t_changesOf : Nat → Int32} {t_changes : Int32} {t_heard : Int32} {t_heardHeir : Nat → Int32} {t_heardOne : Nat → Int32} {t_heardTwo : Nat → Int32} {t_heardMore : Nat → Int32} {t_pageLength : Int32} {t_page : Nat → Int32} {t_farOf : Nat → Int32} {t_endMany : Int32} {t_endMost : Int32} {t_endLeast : Int32} {t_endFew : Int32} {t_seedNow : Int64} {t_saved : Nat → Int32} {t_isKept : Int32} {t_keptWill : Int32} {t_keptChanges : Int32} {t_keptHeard : Int32} {t_keptWorth : Nat → Int32} {t_keptThing : Nat → Int32} {t_keptChangesOf : Nat → Int32} {t_keptHeir : Nat → Int32} {t_keptOne : Nat → Int32} {t_keptTwo : Nat → Int32} {t_keptMore : Nat → Int32} {t_h : Int64} {rr : Int32} {g_t_thingOf : Nat → Int32} {g_t_says : Nat → Int32} {g_t_dealt : Nat → Int32} (back_8 : Int32 → Int32 → (Nat → Int32) → (Nat → Int32) → (Nat → Int32) → Option (Int32 × (Nat → Int32) × (Nat → Int32) × (Nat → Int32))) (hb_8 : ∀ (x1 : Int32) (x2 : Int32) (t_thingOf : Nat → Int32) (t_says : Nat → Int32) (t_dealt : Nat → Int32) (H : Heap) (locs : List Loc) (ls : Array Slot), va_P D vwCl (w_X7 cI cB ad_t t_wills t_heirs t_kindOf t_worthOf t_thingOf t_changesOf t_changes t_heard t_heardHeir t_heardOne t_heardTwo t_heardMore t_pageLength t_page t_says t_dealt t_farOf t_endMany t_endMost t_endLeast t_endFew t_seedNow t_saved t_isKept t_keptWill t_keptChanges t_keptHeard t_keptWorth t_keptThing t_keptChangesOf t_keptHeir t_keptOne t_keptTwo t_keptMore t_h) H → va_D A (w_X7 cI cB ad_t t_wills t_heirs t_kindOf t_worthOf t_thingOf t_changesOf t_changes t_heard t_heardHeir t_heardOne t_heardTwo t_heardMore t_pageLength t_page t_says t_dealt t_farOf t_endMany t_endMost t_endLeast t_endFew t_seedNow t_saved t_isKept t_keptWill t_keptChanges t_keptHeard t_keptWorth t_keptThing t_keptChangesOf t_keptHeir t_keptOne t_keptTwo t_keptMore t_h) → va_S A s.heap H locs → lv_has ls 3 [(0, .ref (ad_t 0)), (1, .int x1), (2, .int x2)] → back_8 x1 x2 t_thingOf t_says t_dealt = some (rr, g_t_thingOf, g_t_says, g_t_dealt) → W p l e rm_X7_dealNow s m args below meth c H locs 0 0 (Zq D below args s A (w_X7 cI cB ad_t t_wills t_heirs t_kindOf t_worthOf g_t_thingOf t_changesOf t_changes t_heard t_heardHeir t_heardOne t_heardTwo t_heardMore t_pageLength t_page g_t_says g_t_dealt t_farOf t_endMany t_endMost t_endLeast t_endFew t_seedNow t_saved t_isKept t_keptWill t_keptChanges t_keptHeard t_keptWorth t_keptThing t_keptChangesOf t_keptHeir t_keptOne t_keptTwo t_keptMore t_h) (some (.int rr))) (F0 m 8 ls [])) : ∀ (x2 : Int32) (k0 : Int32) (k1 : Int32) (t_thingOf : Nat → Int32) (t_says : Nat → Int32) (t_dealt : Nat → Int32) (H : Heap) (locs : List Loc) (ls : Array Slot), va_P D vwCl (w_X7 cI cB ad_t t_wills t_heirs t_kindOf t_worthOf t_thingOf t_changesOf t_changes t_heard t_heardHeir t_heardOne t_heardTwo t_heardMore t_pageLength t_page t_says t_dealt t_farOf t_endMany t_endMost t_endLeast t_endFew t_seedNow t_saved t_isKept t_keptWill t_keptChanges t_keptHeard t_keptWorth t_keptThing t_keptChangesOf t_keptHeir t_keptOne t_keptTwo t_keptMore t_h) H → va_D A (w_X7 cI cB ad_t t_wills t_heirs t_kindOf t_worthOf t_thingOf t_changesOf t_changes t_heard t_heardHeir t_heardOne t_heardTwo t_heardMore t_pageLength t_page t_says t_dealt t_farOf t_endMany t_endMost t_endLeast t_endFew t_seedNow t_saved t_isKept t_keptWill t_keptChanges t_keptHeard t_keptWorth t_keptThing t_keptChangesOf t_keptHeir t_keptOne t_keptTwo t_keptMore t_h) → va_S A s.heap H locs → lv_has ls 3 [(0, .ref (ad_t 0)), (2, .int x2)] → f_X7_dealNow_37 t_heirs t_kindOf t_worthOf back_8 x2 k0 k1 t_thingOf t_says t_dealt = some (rr, g_t_thingOf, g_t_says, g_t_dealt) → W p l e rm_X7_dealNow s m args below meth c H locs 0 0 (Zq D below args s A (w_X7 cI cB ad_t t_wills t_heirs t_kindOf t_worthOf g_t_thingOf t_changesOf t_changes t_heard t_heardHeir t_heardOne t_heardTwo t_heardMore t_pageLength t_page g_t_says g_t_dealt t_farOf t_endMany t_endMost t_endLeast t_endFew t_seedNow t_saved t_isKept t_keptWill t_keptChanges t_keptHeard t_keptWorth t_keptThing t_keptChangesOf t_keptHeir t_keptOne t_keptTwo t_keptMore t_h) (some (.int rr))) (F0 m 37 ls [.int k0, .int k1]) := by
  obtain ⟨hx, hb, hml, hown, hts, hrt, hlocks, hK, hA, hZ⟩ := id F
  intro x2 k0 k1 t_thingOf t_says t_dealt H locs ls hP hD hS hl hf
  refine lv_iadd hx hb dX7_dealNow_37 ?_
  refine lv_istore_n (lv' := [(1, .int (k1 + k0)), (0, .ref (ad_t 0)), (2, .int x2)]) hx hb dX7_dealNow_38 rfl hl (by decide) rfl (fun ls hl => ?_)
  refine lv_aload_n hx hb dX7_dealNow_39 rfl (lv_at hl 1 rfl) ?_
  refine gf F hP in_X7_dealNow_X7 0 rfl rfl 4 (by decide) 2 rfl rfl dX7_dealNow_40 ?_
  refine lv_iload_n hx hb dX7_dealNow_43 rfl (lv_at hl 2 rfl) ?_
  refine lv_aload_n hx hb dX7_dealNow_44 rfl (lv_at hl 1 rfl) ?_
  refine gf F hP in_X7_dealNow_X7 0 rfl rfl 15 (by decide) 3 rfl rfl dX7_dealNow_45 ?_
  refine lv_iload_n hx hb dX7_dealNow_48 rfl (lv_at hl 2 rfl) ?_
  obtain ⟨v1, ev1, hf⟩ := bnd hf
  refine ald F hP 11 rfl ev1 dX7_dealNow_49 ?_
  obtain ⟨g2, eg2, hf⟩ := bnd hf
  refine ast F hP hD hS 3 rfl eg2 dX7_dealNow_50 (w_X7 cI cB ad_t t_wills t_heirs t_kindOf t_worthOf g2 t_changesOf t_changes t_heard t_heardHeir t_heardOne t_heardTwo t_heardMore t_pageLength t_page t_says t_dealt t_farOf t_endMany t_endMost t_endLeast t_endFew t_seedNow t_saved t_isKept t_keptWill t_keptChanges t_keptHeard t_keptWorth t_keptThing t_keptChangesOf t_keptHeir t_keptOne t_keptTwo t_keptMore t_h) rfl (fun H locs hP hD hS => ?_)
  refine lv_iinc (v := (x2 + 1)) (lv' := [(2, .int (x2 + 1)), (1, .int (k1 + k0)), (0, .ref (ad_t 0))]) hx hb dX7_dealNow_51 hl (k := 2) rfl rfl (by decide) rfl (fun ls hl => ?_)
  refine lv_goto (tgt := 8) hx hb dX7_dealNow_54 (by decide) ?_
  exact hb_8 (k1 + k0) (x2 + 1) g2 t_says t_dealt H locs ls hP hD hS (lv_sub hl [2, 1, 0] rfl) hf

set_option maxHeartbeats 4000000 in
set_option maxRecDepth 100000 in
theorem b_X7_dealNow_8 {p : Program} {l : Launch} {e : Env} {s : State} {m : MethodId} {args : Array Value} {below : List Frame} {meth : Method} {c : Code} {D : va_G} {cI cB : ClassId} {kK kV : Nat → Nat} {A : Nat → Prop} (F : Fx p m c s meth args cX7_dealNow 3 RX7 wsX7_dealNow (some .int) D cI cB kK kV A) {ad_t : Nat → Nat} {t_wills : Int32} {t_heirs : Int32} {t_kindOf : Nat → Int32} {t_worthOf : Nat → Int32} {t_changesOf : Nat → Int32} {t_changes : Int32} {t_heard : Int32} {t_heardHeir : Nat → Int32} {t_heardOne : Nat → Int32} {t_heardTwo : Nat → Int32} {t_heardMore : Nat → Int32} {t_pageLength : Int32} {t_page : Nat → Int32} {t_farOf : Nat → Int32} {t_endMany : Int32} {t_endMost : Int32} {t_endLeast : Int32} {t_endFew : Int32} {t_seedNow : Int64} {t_saved : Nat → Int32} {t_isKept : Int32} {t_keptWill : Int32} {t_keptChanges : Int32} {t_keptHeard : Int32} {t_keptWorth : Nat → Int32} {t_keptThing : Nat → Int32} {t_keptChangesOf : Nat → Int32} {t_keptHeir : Nat → Int32} {t_keptOne : Nat → Int32} {t_keptTwo : Nat → Int32} {t_keptMore : Nat → Int32} {t_h : Int64} {rr : Int32} {g_t_thingOf : Nat → Int32} {g_t_says : Nat → Int32} {g_t_dealt : Nat → Int32} : ∀ (n : Nat), ∀ (x1 : Int32) (x2 : Int32) (t_thingOf : Nat → Int32) (t_says : Nat → Int32) (t_dealt : Nat → Int32) (H : Heap) (locs : List Loc) (ls : Array Slot), va_P D vwCl (w_X7 cI cB ad_t t_wills t_heirs t_kindOf t_worthOf t_thingOf t_changesOf t_changes t_heard t_heardHeir t_heardOne t_heardTwo t_heardMore t_pageLength t_page t_says t_dealt t_farOf t_endMany t_endMost t_endLeast t_endFew t_seedNow t_saved t_isKept t_keptWill t_keptChanges t_keptHeard t_keptWorth t_keptThing t_keptChangesOf t_keptHeir t_keptOne t_keptTwo t_keptMore t_h) H → va_D A (w_X7 cI cB ad_t t_wills t_heirs t_kindOf t_worthOf t_thingOf t_changesOf t_changes t_heard t_heardHeir t_heardOne t_heardTwo t_heardMore t_pageLength t_page t_says t_dealt t_farOf t_endMany t_endMost t_endLeast t_endFew t_seedNow t_saved t_isKept t_keptWill t_keptChanges t_keptHeard t_keptWorth t_keptThing t_keptChangesOf t_keptHeir t_keptOne t_keptTwo t_keptMore t_h) → va_S A s.heap H locs → lv_has ls 3 [(0, .ref (ad_t 0)), (1, .int x1), (2, .int x2)] → f_X7_dealNow_8 t_heirs t_kindOf t_worthOf  n x1 x2 t_thingOf t_says t_dealt = some (rr, g_t_thingOf, g_t_says, g_t_dealt) → W p l e rm_X7_dealNow s m args below meth c H locs 0 0 (Zq D below args s A (w_X7 cI cB ad_t t_wills t_heirs t_kindOf t_worthOf g_t_thingOf t_changesOf t_changes t_heard t_heardHeir t_heardOne t_heardTwo t_heardMore t_pageLength t_page g_t_says g_t_dealt t_farOf t_endMany t_endMost t_endLeast t_endFew t_seedNow t_saved t_isKept t_keptWill t_keptChanges t_keptHeard t_keptWorth t_keptThing t_keptChangesOf t_keptHeir t_keptOne t_keptTwo t_keptMore t_h) (some (.int rr))) (F0 m 8 ls []) := by
  obtain ⟨hx, hb, hml, hown, hts, hrt, hlocks, hK, hA, hZ⟩ := id F
  intro n
  induction n with
  | zero =>
    intro x1 x2 t_thingOf t_says t_dealt H locs ls hP hD hS hl hf
    cases hf
  | succ n ih =>
    intro x1 x2 t_thingOf t_says t_dealt H locs ls hP hD hS hl hf
    refine lv_iload_n hx hb dX7_dealNow_8 rfl (lv_at hl 2 rfl) ?_
    refine lv_aload_n hx hb dX7_dealNow_9 rfl (lv_at hl 0 rfl) ?_
    refine gf F hP in_X7_dealNow_X7 0 rfl rfl 1 (by decide) 1 rfl rfl dX7_dealNow_10 ?_
    refine lv_icmp_ge (tgt := 57) hx hb dX7_dealNow_13 (by decide) (fun c1 => ?_) (fun c1 => ?_)
    · replace hf := (if_pos c1).symm.trans hf
      refine lv_iload_n hx hb dX7_dealNow_57 rfl (lv_at hl 1 rfl) ?_
      replace hf : (some (x1, t_thingOf, t_says, t_dealt) : Option (Int32 × (Nat → Int32) × (Nat → Int32) × (Nat → Int32))) = some (rr, g_t_thingOf, g_t_says, g_t_dealt) := hf
      cases hf
      exact ret_i F hP hS dX7_dealNow_58
    · replace hf := (if_neg c1).symm.trans hf
      refine lv_iload_n hx hb dX7_dealNow_16 rfl (lv_at hl 1 rfl) ?_
      refine lv_aload_n hx hb dX7_dealNow_17 rfl (lv_at hl 0 rfl) ?_
      refine gf F hP in_X7_dealNow_X7 0 rfl rfl 4 (by decide) 2 rfl rfl dX7_dealNow_18 ?_
      refine lv_iload_n hx hb dX7_dealNow_21 rfl (lv_at hl 2 rfl) ?_
      obtain ⟨v2, ev2, hf⟩ := bnd hf
      refine ald F hP 3 rfl ev2 dX7_dealNow_22 ?_
      refine lv_aload_n hx hb dX7_dealNow_23 rfl (lv_at hl 0 rfl) ?_
      refine gf F hP in_X7_dealNow_X7 0 rfl rfl 15 (by decide) 3 rfl rfl dX7_dealNow_24 ?_
      refine lv_iload_n hx hb dX7_dealNow_27 rfl (lv_at hl 2 rfl) ?_
      obtain ⟨v3, ev3, hf⟩ := bnd hf
      refine ald F hP 11 rfl ev3 dX7_dealNow_28 ?_
      refine lv_icmp_ne (tgt := 36) hx hb dX7_dealNow_29 (by decide) (fun c4 => ?_) (fun c4 => ?_)
      · replace hf := (if_neg c4).symm.trans hf
        refine lv_iconst (v := 1) hx hb dX7_dealNow_36 (by decide) ?_
        exact b_X7_dealNow_37 F (f_X7_dealNow_8 t_heirs t_kindOf t_worthOf  n) ih x2 1 x1 t_thingOf t_says t_dealt H locs ls hP hD hS (lv_sub hl [0, 2] rfl) hf
      · replace hf := (if_pos c4).symm.trans hf
        refine lv_iconst (v := 0) hx hb dX7_dealNow_32 (by decide) ?_
        refine lv_goto (tgt := 37) hx hb dX7_dealNow_33 (by decide) ?_
        exact b_X7_dealNow_37 F (f_X7_dealNow_8 t_heirs t_kindOf t_worthOf  n) ih x2 0 x1 t_thingOf t_says t_dealt H locs ls hP hD hS (lv_sub hl [0, 2] rfl) hf

set_option maxHeartbeats 4000000 in
set_option maxRecDepth 100000 in
theorem k_X7_dealNow (l : Launch) {D : va_G} {cI cB : ClassId} {kK kV : Nat → Nat} (ad_t : Nat → Nat) (t_wills : Int32) (t_heirs : Int32) (t_kindOf : Nat → Int32) (t_worthOf : Nat → Int32) (t_thingOf : Nat → Int32) (t_changesOf : Nat → Int32) (t_changes : Int32) (t_heard : Int32) (t_heardHeir : Nat → Int32) (t_heardOne : Nat → Int32) (t_heardTwo : Nat → Int32) (t_heardMore : Nat → Int32) (t_pageLength : Int32) (t_page : Nat → Int32) (t_says : Nat → Int32) (t_dealt : Nat → Int32) (t_farOf : Nat → Int32) (t_endMany : Int32) (t_endMost : Int32) (t_endLeast : Int32) (t_endFew : Int32) (t_seedNow : Int64) (t_saved : Nat → Int32) (t_isKept : Int32) (t_keptWill : Int32) (t_keptChanges : Int32) (t_keptHeard : Int32) (t_keptWorth : Nat → Int32) (t_keptThing : Nat → Int32) (t_keptChangesOf : Nat → Int32) (t_keptHeir : Nat → Int32) (t_keptOne : Nat → Int32) (t_keptTwo : Nat → Int32) (t_keptMore : Nat → Int32) (t_h : Int64)  {rr : Int32} {g_t_thingOf : Nat → Int32} {g_t_says : Nat → Int32} {g_t_dealt : Nat → Int32} (hf : f_X7_dealNow t_heirs t_kindOf t_worthOf t_thingOf t_says t_dealt = some (rr, g_t_thingOf, g_t_says, g_t_dealt)) : Ct l yX7_dealNow wsX7_dealNow rm_X7_dealNow D cI cB kK kV [.ref (ad_t 0)] (w_X7 cI cB ad_t t_wills t_heirs t_kindOf t_worthOf t_thingOf t_changesOf t_changes t_heard t_heardHeir t_heardOne t_heardTwo t_heardMore t_pageLength t_page t_says t_dealt t_farOf t_endMany t_endMost t_endLeast t_endFew t_seedNow t_saved t_isKept t_keptWill t_keptChanges t_keptHeard t_keptWorth t_keptThing t_keptChangesOf t_keptHeir t_keptOne t_keptTwo t_keptMore t_h) (w_X7 cI cB ad_t t_wills t_heirs t_kindOf t_worthOf g_t_thingOf t_changesOf t_changes t_heard t_heardHeir t_heardOne t_heardTwo t_heardMore t_pageLength t_page g_t_says g_t_dealt t_farOf t_endMany t_endMost t_endLeast t_endFew t_seedNow t_saved t_isKept t_keptWill t_keptChanges t_keptHeard t_keptWorth t_keptThing t_keptChangesOf t_keptHeir t_keptOne t_keptTwo t_keptMore t_h) (some (.int rr)) := by
  refine Ct.of (cc := cX7_dealNow) (maxL := 3) (ret := (some .int)) (by decide) rfl (Nat.le_of_ble_eq_true rfl) rfl ?_
  intro p e s m below meth c A ls F hP hD hS hl
  have hl : lv_has ls 3 [(0, .ref (ad_t 0))] := hl
  obtain ⟨hx, hb, hml, hown, hts, hrt, hlocks, hK, hA, hZ⟩ := id F
  obtain ⟨H, hH⟩ : ∃ H, H = s.heap := ⟨_, rfl⟩
  obtain ⟨locs, hLo⟩ : ∃ q : List Loc, q = [] := ⟨_, rfl⟩
  refine (?_ : W p l e rm_X7_dealNow s m _ below meth c s.heap [] 0 0 _ _)
  rw [← hH, ← hLo]
  rw [← hH] at hP
  have hS : va_S A s.heap H locs := by rw [hH, hLo]; exact hS
  refine lv_aload_n hx hb dX7_dealNow_0 rfl (lv_at hl 0 rfl) ?_
  obtain ⟨⟨g1, g2⟩, e3, hf⟩ := bnd hf
  refine cV F hP hD hS (k_X7_layDeal l ad_t t_wills t_heirs t_kindOf t_worthOf t_thingOf t_changesOf t_changes t_heard t_heardHeir t_heardOne t_heardTwo t_heardMore t_pageLength t_page t_says t_dealt t_farOf t_endMany t_endMost t_endLeast t_endFew t_seedNow t_saved t_isKept t_keptWill t_keptChanges t_keptHeard t_keptWorth t_keptThing t_keptChangesOf t_keptHeir t_keptOne t_keptTwo t_keptMore t_h  e3) gX7_dealNow_X7_layDeal rfl ⟨rfl, rfl⟩ nd_X7_layDeal ⟨Nat.le_of_ble_eq_true rfl, Nat.le_of_ble_eq_true rfl⟩ 0 7 rfl rfl rfl hl.1 rfl (Nat.le_of_ble_eq_true rfl) dX7_dealNow_1 (pm0 (w_X7 cI cB ad_t t_wills t_heirs t_kindOf t_worthOf t_thingOf t_changesOf t_changes t_heard t_heardHeir t_heardOne t_heardTwo t_heardMore t_pageLength t_page t_says t_dealt t_farOf t_endMany t_endMost t_endLeast t_endFew t_seedNow t_saved t_isKept t_keptWill t_keptChanges t_keptHeard t_keptWorth t_keptThing t_keptChangesOf t_keptHeir t_keptOne t_keptTwo t_keptMore t_h)) (pm0 (w_X7 cI cB ad_t t_wills t_heirs t_kindOf t_worthOf t_thingOf t_changesOf t_changes t_heard t_heardHeir t_heardOne t_heardTwo t_heardMore t_pageLength t_page g1 g2 t_farOf t_endMany t_endMost t_endLeast t_endFew t_seedNow t_saved t_isKept t_keptWill t_keptChanges t_keptHeard t_keptWorth t_keptThing t_keptChangesOf t_keptHeir t_keptOne t_keptTwo t_keptMore t_h)) (fun H locs hP hD hS => ?_)
  refine lv_iconst (v := 0) hx hb dX7_dealNow_4 (by decide) ?_
  refine lv_istore_n (lv' := [(1, .int 0), (0, .ref (ad_t 0))]) hx hb dX7_dealNow_5 rfl hl (by decide) rfl (fun ls hl => ?_)
  refine lv_iconst (v := 0) hx hb dX7_dealNow_6 (by decide) ?_
  refine lv_istore_n (lv' := [(2, .int 0), (1, .int 0), (0, .ref (ad_t 0))]) hx hb dX7_dealNow_7 rfl hl (by decide) rfl (fun ls hl => ?_)
  exact b_X7_dealNow_8 F 300 0 0 t_thingOf g1 g2 H locs ls hP hD hS (lv_sub hl [2, 1, 0] rfl) hf

