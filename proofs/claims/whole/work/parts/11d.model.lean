/-! X7_ends -/
def rm_X7_ends : Room := { frames := 4, cells := 0, slots := 0, locals := 97 }
theorem in_X7_ends_X7 : ∀ w ∈ u_ws RX7 TX7 35, w ∈ wsX7_ends := fun _ h => List.mem_cons_of_mem _ (List.mem_append_right _ (h))
theorem nd_X7_ends : yX7_ends.cls = RX7 ∧ yX7_ends.cls ≠ "java/lang/invoke/MethodHandle" ∧ yX7_ends.cls ≠ "java/lang/invoke/VarHandle" ∧ (parseMethodDescriptor yX7_ends.desc).map (fun d => d.parameters.length) = some 1 := by decide +kernel
def f_X7_ends (t_heirs : Int32) (t_kindOf : Nat → Int32) (t_worthOf : Nat → Int32) (t_thingOf : Nat → Int32) (t_says : Nat → Int32) (t_farOf : Nat → Int32) (t_endMany : Int32) (t_endMost : Int32) (t_endLeast : Int32) (t_endFew : Int32) (x1 : Int32) : Option (Int32 × (Nat → Int32) × (Nat → Int32) × Int32 × Int32 × Int32 × Int32) := (f_X7_within x1 0 3).bind (fun v1 => (if v1 = 0 then some ((-102), t_says, t_farOf, t_endMany, t_endMost, t_endLeast, t_endFew) else (if t_heirs = 0 then some ((-103), t_says, t_farOf, t_endMany, t_endMost, t_endLeast, t_endFew) else (f_X7_endsNow t_heirs t_kindOf t_worthOf t_thingOf t_says t_farOf t_endMany t_endMost t_endLeast t_endFew x1).bind (fun (v5, g6, g7, g8, g9, g10, g11) => some (v5, g6, g7, g8, g9, g10, g11)))))
set_option maxHeartbeats 4000000 in
set_option maxRecDepth 100000 in
theorem k_X7_ends (l : Launch) {D : va_G} {cI cB : ClassId} {kK kV : Nat → Nat} (ad_t : Nat → Nat) (t_wills : Int32) (t_heirs : Int32) (t_kindOf : Nat → Int32) (t_worthOf : Nat → Int32) (t_thingOf : Nat → Int32) (t_changesOf : Nat → Int32) (t_changes : Int32) (t_heard : Int32) (t_heardHeir : Nat → Int32) (t_heardOne : Nat → Int32) (t_heardTwo : Nat → Int32) (t_heardMore : Nat → Int32) (t_pageLength : Int32) (t_page : Nat → Int32) (t_says : Nat → Int32) (t_dealt : Nat → Int32) (t_farOf : Nat → Int32) (t_endMany : Int32) (t_endMost : Int32) (t_endLeast : Int32) (t_endFew : Int32) (t_seedNow : Int64) (t_saved : Nat → Int32) (t_isKept : Int32) (t_keptWill : Int32) (t_keptChanges : Int32) (t_keptHeard : Int32) (t_keptWorth : Nat → Int32) (t_keptThing : Nat → Int32) (t_keptChangesOf : Nat → Int32) (t_keptHeir : Nat → Int32) (t_keptOne : Nat → Int32) (t_keptTwo : Nat → Int32) (t_keptMore : Nat → Int32) (t_h : Int64) (x1 : Int32) {rr : Int32} {g_t_says : Nat → Int32} {g_t_farOf : Nat → Int32} {g_t_endMany : Int32} {g_t_endMost : Int32} {g_t_endLeast : Int32} {g_t_endFew : Int32} (hf : f_X7_ends t_heirs t_kindOf t_worthOf t_thingOf t_says t_farOf t_endMany t_endMost t_endLeast t_endFew x1 = some (rr, g_t_says, g_t_farOf, g_t_endMany, g_t_endMost, g_t_endLeast, g_t_endFew)) : Ct l yX7_ends wsX7_ends rm_X7_ends D cI cB kK kV [.ref (ad_t 0), .int x1] (w_X7 cI cB ad_t t_wills t_heirs t_kindOf t_worthOf t_thingOf t_changesOf t_changes t_heard t_heardHeir t_heardOne t_heardTwo t_heardMore t_pageLength t_page t_says t_dealt t_farOf t_endMany t_endMost t_endLeast t_endFew t_seedNow t_saved t_isKept t_keptWill t_keptChanges t_keptHeard t_keptWorth t_keptThing t_keptChangesOf t_keptHeir t_keptOne t_keptTwo t_keptMore t_h) (w_X7 cI cB ad_t t_wills t_heirs t_kindOf t_worthOf t_thingOf t_changesOf t_changes t_heard t_heardHeir t_heardOne t_heardTwo t_heardMore t_pageLength t_page g_t_says t_dealt g_t_farOf g_t_endMany g_t_endMost g_t_endLeast g_t_endFew t_seedNow t_saved t_isKept t_keptWill t_keptChanges t_keptHeard t_keptWorth t_keptThing t_keptChangesOf t_keptHeir t_keptOne t_keptTwo t_keptMore t_h) (some (.int rr)) := by
  refine Ct.of (cc := cX7_ends) (maxL := 2) (ret := (some .int)) (by decide) rfl (Nat.le_of_ble_eq_true rfl) rfl ?_
  intro p e s m below meth c A ls F hP hD hS hl
  have hl : lv_has ls 2 [(0, .ref (ad_t 0)), (1, .int x1)] := hl
  obtain ⟨hx, hb, hml, hown, hts, hrt, hlocks, hK, hA, hZ⟩ := id F
  obtain ⟨H, hH⟩ : ∃ H, H = s.heap := ⟨_, rfl⟩
  obtain ⟨locs, hLo⟩ : ∃ q : List Loc, q = [] := ⟨_, rfl⟩
  refine (?_ : W p l e rm_X7_ends s m _ below meth c s.heap [] 0 0 _ _)
  rw [← hH, ← hLo]
  rw [← hH] at hP
  have hS : va_S A s.heap H locs := by rw [hH, hLo]; exact hS
  refine lv_iload_n hx hb dX7_ends_0 rfl (lv_at hl 1 rfl) ?_
  refine lv_iconst (v := 0) hx hb dX7_ends_1 (by decide) ?_
  refine lv_iconst (v := 3) hx hb dX7_ends_2 (by decide) ?_
  obtain ⟨v1, e2, hf⟩ := bnd hf
  refine cS F hP hD hS (k_X7_within l  x1 0 3 e2) gX7_ends_X7_within rfl ⟨rfl, rfl⟩ nd_X7_within ⟨Nat.le_of_ble_eq_true rfl, Nat.le_of_ble_eq_true rfl⟩ rfl hl.1 rfl (Nat.le_of_ble_eq_true rfl) dX7_ends_3 (pmE (w_X7 cI cB ad_t t_wills t_heirs t_kindOf t_worthOf t_thingOf t_changesOf t_changes t_heard t_heardHeir t_heardOne t_heardTwo t_heardMore t_pageLength t_page t_says t_dealt t_farOf t_endMany t_endMost t_endLeast t_endFew t_seedNow t_saved t_isKept t_keptWill t_keptChanges t_keptHeard t_keptWorth t_keptThing t_keptChangesOf t_keptHeir t_keptOne t_keptTwo t_keptMore t_h)) (pmE (w_X7 cI cB ad_t t_wills t_heirs t_kindOf t_worthOf t_thingOf t_changesOf t_changes t_heard t_heardHeir t_heardOne t_heardTwo t_heardMore t_pageLength t_page t_says t_dealt t_farOf t_endMany t_endMost t_endLeast t_endFew t_seedNow t_saved t_isKept t_keptWill t_keptChanges t_keptHeard t_keptWorth t_keptThing t_keptChangesOf t_keptHeir t_keptOne t_keptTwo t_keptMore t_h)) (fun H locs hP hD hS => ?_)
  refine lv_if_ne (tgt := 12) hx hb dX7_ends_6 (by decide) (fun c3 => ?_) (fun c3 => ?_)
  · replace hf := (if_neg c3).symm.trans hf
    refine lv_aload_n hx hb dX7_ends_12 rfl (lv_at hl 0 rfl) ?_
    refine gf F hP in_X7_ends_X7 0 rfl rfl 1 (by decide) 1 rfl rfl dX7_ends_13 ?_
    refine lv_if_ne (tgt := 24) hx hb dX7_ends_16 (by decide) (fun c4 => ?_) (fun c4 => ?_)
    · replace hf := (if_neg c4).symm.trans hf
      refine lv_aload_n hx hb dX7_ends_24 rfl (lv_at hl 0 rfl) ?_
      refine lv_iload_n hx hb dX7_ends_25 rfl (lv_at hl 1 rfl) ?_
      obtain ⟨⟨v5, g6, g7, g8, g9, g10, g11⟩, e12, hf⟩ := bnd hf
      refine cV F hP hD hS (k_X7_endsNow l ad_t t_wills t_heirs t_kindOf t_worthOf t_thingOf t_changesOf t_changes t_heard t_heardHeir t_heardOne t_heardTwo t_heardMore t_pageLength t_page t_says t_dealt t_farOf t_endMany t_endMost t_endLeast t_endFew t_seedNow t_saved t_isKept t_keptWill t_keptChanges t_keptHeard t_keptWorth t_keptThing t_keptChangesOf t_keptHeir t_keptOne t_keptTwo t_keptMore t_h x1 e12) gX7_ends_X7_endsNow rfl ⟨rfl, rfl⟩ nd_X7_endsNow ⟨Nat.le_of_ble_eq_true rfl, Nat.le_of_ble_eq_true rfl⟩ 0 7 rfl rfl rfl hl.1 rfl (Nat.le_of_ble_eq_true rfl) dX7_ends_26 (pm0 (w_X7 cI cB ad_t t_wills t_heirs t_kindOf t_worthOf t_thingOf t_changesOf t_changes t_heard t_heardHeir t_heardOne t_heardTwo t_heardMore t_pageLength t_page t_says t_dealt t_farOf t_endMany t_endMost t_endLeast t_endFew t_seedNow t_saved t_isKept t_keptWill t_keptChanges t_keptHeard t_keptWorth t_keptThing t_keptChangesOf t_keptHeir t_keptOne t_keptTwo t_keptMore t_h)) (pm0 (w_X7 cI cB ad_t t_wills t_heirs t_kindOf t_worthOf t_thingOf t_changesOf t_changes t_heard t_heardHeir t_heardOne t_heardTwo t_heardMore t_pageLength t_page g6 t_dealt g7 g8 g9 g10 g11 t_seedNow t_saved t_isKept t_keptWill t_keptChanges t_keptHeard t_keptWorth t_keptThing t_keptChangesOf t_keptHeir t_keptOne t_keptTwo t_keptMore t_h)) (fun H locs hP hD hS => ?_)
      replace hf : (some (v5, g6, g7, g8, g9, g10, g11) : Option (Int32 × (Nat → Int32) × (Nat → Int32) × Int32 × Int32 × Int32 × Int32)) = some (rr, g_t_says, g_t_farOf, g_t_endMany, g_t_endMost, g_t_endLeast, g_t_endFew) := hf
      cases hf
      exact ret_i F hP hS dX7_ends_29
    · replace hf := (if_pos c4).symm.trans hf
      refine lv_bipush (v := (-103)) hx hb dX7_ends_19 (by decide) ?_
      refine lv_goto (tgt := 29) hx hb dX7_ends_21 (by decide) ?_
      replace hf : (some ((-103), t_says, t_farOf, t_endMany, t_endMost, t_endLeast, t_endFew) : Option (Int32 × (Nat → Int32) × (Nat → Int32) × Int32 × Int32 × Int32 × Int32)) = some (rr, g_t_says, g_t_farOf, g_t_endMany, g_t_endMost, g_t_endLeast, g_t_endFew) := hf
      cases hf
      exact ret_i F hP hS dX7_ends_29
  · replace hf := (if_pos c3).symm.trans hf
    refine lv_bipush (v := (-102)) hx hb dX7_ends_9 (by decide) ?_
    replace hf : (some ((-102), t_says, t_farOf, t_endMany, t_endMost, t_endLeast, t_endFew) : Option (Int32 × (Nat → Int32) × (Nat → Int32) × Int32 × Int32 × Int32 × Int32)) = some (rr, g_t_says, g_t_farOf, g_t_endMany, g_t_endMost, g_t_endLeast, g_t_endFew) := hf
    cases hf
    exact ret_i F hP hS dX7_ends_11

/-! X7_servedNow -/
def rm_X7_servedNow : Room := { frames := 3, cells := 0, slots := 0, locals := 70 }
theorem in_X7_servedNow_X7 : ∀ w ∈ u_ws RX7 TX7 35, w ∈ wsX7_servedNow := fun _ h => List.mem_cons_of_mem _ (List.mem_append_right _ (h))
theorem nd_X7_servedNow : yX7_servedNow.cls = RX7 ∧ yX7_servedNow.cls ≠ "java/lang/invoke/MethodHandle" ∧ yX7_servedNow.cls ≠ "java/lang/invoke/VarHandle" ∧ (parseMethodDescriptor yX7_servedNow.desc).map (fun d => d.parameters.length) = some 2 := by decide +kernel
def f_X7_servedNow_81 (t_heirs : Int32) (t_worthOf : Nat → Int32) (back_16 : Int32 → Int32 → Int32 → Int32 → Int32 → Int32 → (Nat → Int32) → (Nat → Int32) → (Nat → Int32) → Option (Int32 × (Nat → Int32) × (Nat → Int32) × (Nat → Int32))) (x1 : Int32) (x2 : Int32) (x3 : Int32) (x4 : Int32) (x6 : Int32) (k0 : Int32) (t_kindOf : Nat → Int32) (t_says : Nat → Int32) (t_dealt : Nat → Int32) : Option (Int32 × (Nat → Int32) × (Nat → Int32) × (Nat → Int32)) := back_16 x1 x2 x3 x4 k0 (x6 + 1) t_kindOf t_says t_dealt
def f_X7_servedNow_65 (t_heirs : Int32) (t_worthOf : Nat → Int32) (back_16 : Int32 → Int32 → Int32 → Int32 → Int32 → Int32 → (Nat → Int32) → (Nat → Int32) → (Nat → Int32) → Option (Int32 × (Nat → Int32) × (Nat → Int32) × (Nat → Int32))) (x1 : Int32) (x2 : Int32) (x3 : Int32) (x5 : Int32) (x6 : Int32) (x7 : Int32) (k0 : Int32) (t_kindOf : Nat → Int32) (t_says : Nat → Int32) (t_dealt : Nat → Int32) : Option (Int32 × (Nat → Int32) × (Nat → Int32) × (Nat → Int32)) := (if x7 ≤ x5 then f_X7_servedNow_81 t_heirs t_worthOf back_16 x1 x2 x3 k0 x6 x5 t_kindOf t_says t_dealt else f_X7_servedNow_81 t_heirs t_worthOf back_16 x1 x2 x3 k0 x6 x7 t_kindOf t_says t_dealt)
def f_X7_servedNow_16 (t_heirs : Int32) (t_worthOf : Nat → Int32)  : Nat → Int32 → Int32 → Int32 → Int32 → Int32 → Int32 → (Nat → Int32) → (Nat → Int32) → (Nat → Int32) → Option (Int32 × (Nat → Int32) × (Nat → Int32) × (Nat → Int32))
  | 0, _, _, _, _, _, _, _, _, _ => none
  | n + 1, x1, x2, x3, x4, x5, x6, t_kindOf, t_says, t_dealt => (if 5 ≤ x6 then (wr t_kindOf 4 x1 x3).bind (fun g2 => (if x2 = 0 then some (x4, g2, t_says, t_dealt) else some (x5, g2, t_says, t_dealt))) else (wr t_kindOf 4 x1 x6).bind (fun g4 => (f_X7_layDeal t_heirs g4 t_worthOf t_says t_dealt).bind (fun (g5, g6) => (rd g6 4 x1).bind (fun v8 => (rd t_worthOf 16 ((4 * x1) + v8)).bind (fun v9 => (if v9 ≤ x5 then f_X7_servedNow_65 t_heirs t_worthOf (f_X7_servedNow_16 t_heirs t_worthOf  n) x1 x2 x3 x5 x6 v9 x4 g4 g5 g6 else f_X7_servedNow_65 t_heirs t_worthOf (f_X7_servedNow_16 t_heirs t_worthOf  n) x1 x2 x3 x5 x6 v9 x6 g4 g5 g6))))))
def f_X7_servedNow (t_heirs : Int32) (t_kindOf : Nat → Int32) (t_worthOf : Nat → Int32) (t_says : Nat → Int32) (t_dealt : Nat → Int32) (x1 : Int32) (x2 : Int32) : Option (Int32 × (Nat → Int32) × (Nat → Int32) × (Nat → Int32)) := (rd t_kindOf 4 x1).bind (fun v1 => f_X7_servedNow_16 t_heirs t_worthOf 300 x1 x2 v1 (-1) (-1) 0 t_kindOf t_says t_dealt)
set_option maxHeartbeats 4000000 in
set_option maxRecDepth 100000 in
theorem b_X7_servedNow_81 {p : Program} {l : Launch} {e : Env} {s : State} {m : MethodId} {args : Array Value} {below : List Frame} {meth : Method} {c : Code} {D : va_G} {cI cB : ClassId} {kK kV : Nat → Nat} {A : Nat → Prop} (F : Fx p m c s meth args cX7_servedNow 8 RX7 wsX7_servedNow (some .int) D cI cB kK kV A) {ad_t : Nat → Nat} {t_wills : Int32} {t_heirs : Int32} {t_worthOf : Nat → Int32} {t_thingOf : Nat → Int32} {t_changesOf : Nat → Int32} {t_changes : Int32} {t_heard : Int32} {t_heardHeir : Nat → Int32} {t_heardOne : Nat → Int32} {t_heardTwo : Nat → Int32} {t_heardMore : Nat → Int32} {t_pageLength : Int32} {t_page : Nat → Int32} {t_farOf : Nat → Int32} {t_endMany : Int32} {t_endMost : Int32} {t_endLeast : Int32} {t_endFew : Int32} {t_seedNow : Int64} {t_saved : Nat → Int32} {t_isKept : Int32} {t_keptWill : Int32} {t_keptChanges : Int32} {t_keptHeard : Int32} {t_keptWorth : Nat → Int32} {t_keptThing : Nat → Int32} {t_keptChangesOf : Nat → Int32} {t_keptHeir : Nat → Int32} {t_keptOne : Nat → Int32} {t_keptTwo : Nat → Int32} {t_keptMore : Nat → Int32} {t_h : Int64} {rr : Int32} {g_t_kindOf : Nat → Int32} {g_t_says : Nat → Int32} {g_t_dealt : Nat → Int32} (back_16 : Int32 → Int32 → Int32 → Int32 → Int32 → Int32 → (Nat → Int32) → (Nat → Int32) → (Nat → Int32) → Option (Int32 × (Nat → Int32) × (Nat → Int32) × (Nat → Int32))) (hb_16 : ∀ (x1 : Int32) (x2 : Int32) (x3 : Int32) (x4 : Int32) (x5 : Int32) (x6 : Int32) (t_kindOf : Nat → Int32) (t_says : Nat → Int32) (t_dealt : Nat → Int32) (H : Heap) (locs : List Loc) (ls : Array Slot), va_P D vwCl (w_X7 cI cB ad_t t_wills t_heirs t_kindOf t_worthOf t_thingOf t_changesOf t_changes t_heard t_heardHeir t_heardOne t_heardTwo t_heardMore t_pageLength t_page t_says t_dealt t_farOf t_endMany t_endMost t_endLeast t_endFew t_seedNow t_saved t_isKept t_keptWill t_keptChanges t_keptHeard t_keptWorth t_keptThing t_keptChangesOf t_keptHeir t_keptOne t_keptTwo t_keptMore t_h) H → va_D A (w_X7 cI cB ad_t t_wills t_heirs t_kindOf t_worthOf t_thingOf t_changesOf t_changes t_heard t_heardHeir t_heardOne t_heardTwo t_heardMore t_pageLength t_page t_says t_dealt t_farOf t_endMany t_endMost t_endLeast t_endFew t_seedNow t_saved t_isKept t_keptWill t_keptChanges t_keptHeard t_keptWorth t_keptThing t_keptChangesOf t_keptHeir t_keptOne t_keptTwo t_keptMore t_h) → va_S A s.heap H locs → lv_has ls 8 [(0, .ref (ad_t 0)), (1, .int x1), (2, .int x2), (3, .int x3), (4, .int x4), (5, .int x5), (6, .int x6)] → back_16 x1 x2 x3 x4 x5 x6 t_kindOf t_says t_dealt = some (rr, g_t_kindOf, g_t_says, g_t_dealt) → W p l e rm_X7_servedNow s m args below meth c H locs 0 0 (Zq D below args s A (w_X7 cI cB ad_t t_wills t_heirs g_t_kindOf t_worthOf t_thingOf t_changesOf t_changes t_heard t_heardHeir t_heardOne t_heardTwo t_heardMore t_pageLength t_page g_t_says g_t_dealt t_farOf t_endMany t_endMost t_endLeast t_endFew t_seedNow t_saved t_isKept t_keptWill t_keptChanges t_keptHeard t_keptWorth t_keptThing t_keptChangesOf t_keptHeir t_keptOne t_keptTwo t_keptMore t_h) (some (.int rr))) (F0 m 16 ls [])) : ∀ (x1 : Int32) (x2 : Int32) (x3 : Int32) (x4 : Int32) (x6 : Int32) (k0 : Int32) (t_kindOf : Nat → Int32) (t_says : Nat → Int32) (t_dealt : Nat → Int32) (H : Heap) (locs : List Loc) (ls : Array Slot), va_P D vwCl (w_X7 cI cB ad_t t_wills t_heirs t_kindOf t_worthOf t_thingOf t_changesOf t_changes t_heard t_heardHeir t_heardOne t_heardTwo t_heardMore t_pageLength t_page t_says t_dealt t_farOf t_endMany t_endMost t_endLeast t_endFew t_seedNow t_saved t_isKept t_keptWill t_keptChanges t_keptHeard t_keptWorth t_keptThing t_keptChangesOf t_keptHeir t_keptOne t_keptTwo t_keptMore t_h) H → va_D A (w_X7 cI cB ad_t t_wills t_heirs t_kindOf t_worthOf t_thingOf t_changesOf t_changes t_heard t_heardHeir t_heardOne t_heardTwo t_heardMore t_pageLength t_page t_says t_dealt t_farOf t_endMany t_endMost t_endLeast t_endFew t_seedNow t_saved t_isKept t_keptWill t_keptChanges t_keptHeard t_keptWorth t_keptThing t_keptChangesOf t_keptHeir t_keptOne t_keptTwo t_keptMore t_h) → va_S A s.heap H locs → lv_has ls 8 [(0, .ref (ad_t 0)), (1, .int x1), (2, .int x2), (3, .int x3), (4, .int x4), (6, .int x6)] → f_X7_servedNow_81 t_heirs t_worthOf back_16 x1 x2 x3 x4 x6 k0 t_kindOf t_says t_dealt = some (rr, g_t_kindOf, g_t_says, g_t_dealt) → W p l e rm_X7_servedNow s m args below meth c H locs 0 0 (Zq D below args s A (w_X7 cI cB ad_t t_wills t_heirs g_t_kindOf t_worthOf t_thingOf t_changesOf t_changes t_heard t_heardHeir t_heardOne t_heardTwo t_heardMore t_pageLength t_page g_t_says g_t_dealt t_farOf t_endMany t_endMost t_endLeast t_endFew t_seedNow t_saved t_isKept t_keptWill t_keptChanges t_keptHeard t_keptWorth t_keptThing t_keptChangesOf t_keptHeir t_keptOne t_keptTwo t_keptMore t_h) (some (.int rr))) (F0 m 81 ls [.int k0]) := by
  obtain ⟨hx, hb, hml, hown, hts, hrt, hlocks, hK, hA, hZ⟩ := id F
  intro x1 x2 x3 x4 x6 k0 t_kindOf t_says t_dealt H locs ls hP hD hS hl hf
  refine lv_istore (lv' := [(5, .int k0), (0, .ref (ad_t 0)), (1, .int x1), (2, .int x2), (3, .int x3), (4, .int x4), (6, .int x6)]) hx hb dX7_servedNow_81 hl (by decide) rfl (fun ls hl => ?_)
  refine lv_iinc (v := (x6 + 1)) (lv' := [(6, .int (x6 + 1)), (5, .int k0), (0, .ref (ad_t 0)), (1, .int x1), (2, .int x2), (3, .int x3), (4, .int x4)]) hx hb dX7_servedNow_83 hl (k := 6) rfl rfl (by decide) rfl (fun ls hl => ?_)
  refine lv_goto (tgt := 16) hx hb dX7_servedNow_86 (by decide) ?_
  exact hb_16 x1 x2 x3 x4 k0 (x6 + 1) t_kindOf t_says t_dealt H locs ls hP hD hS (lv_sub hl [2, 3, 4, 5, 6, 1, 0] rfl) hf

set_option maxHeartbeats 4000000 in
set_option maxRecDepth 100000 in
theorem b_X7_servedNow_65 {p : Program} {l : Launch} {e : Env} {s : State} {m : MethodId} {args : Array Value} {below : List Frame} {meth : Method} {c : Code} {D : va_G} {cI cB : ClassId} {kK kV : Nat → Nat} {A : Nat → Prop} (F : Fx p m c s meth args cX7_servedNow 8 RX7 wsX7_servedNow (some .int) D cI cB kK kV A) {ad_t : Nat → Nat} {t_wills : Int32} {t_heirs : Int32} {t_worthOf : Nat → Int32} {t_thingOf : Nat → Int32} {t_changesOf : Nat → Int32} {t_changes : Int32} {t_heard : Int32} {t_heardHeir : Nat → Int32} {t_heardOne : Nat → Int32} {t_heardTwo : Nat → Int32} {t_heardMore : Nat → Int32} {t_pageLength : Int32} {t_page : Nat → Int32} {t_farOf : Nat → Int32} {t_endMany : Int32} {t_endMost : Int32} {t_endLeast : Int32} {t_endFew : Int32} {t_seedNow : Int64} {t_saved : Nat → Int32} {t_isKept : Int32} {t_keptWill : Int32} {t_keptChanges : Int32} {t_keptHeard : Int32} {t_keptWorth : Nat → Int32} {t_keptThing : Nat → Int32} {t_keptChangesOf : Nat → Int32} {t_keptHeir : Nat → Int32} {t_keptOne : Nat → Int32} {t_keptTwo : Nat → Int32} {t_keptMore : Nat → Int32} {t_h : Int64} {rr : Int32} {g_t_kindOf : Nat → Int32} {g_t_says : Nat → Int32} {g_t_dealt : Nat → Int32} (back_16 : Int32 → Int32 → Int32 → Int32 → Int32 → Int32 → (Nat → Int32) → (Nat → Int32) → (Nat → Int32) → Option (Int32 × (Nat → Int32) × (Nat → Int32) × (Nat → Int32))) (hb_16 : ∀ (x1 : Int32) (x2 : Int32) (x3 : Int32) (x4 : Int32) (x5 : Int32) (x6 : Int32) (t_kindOf : Nat → Int32) (t_says : Nat → Int32) (t_dealt : Nat → Int32) (H : Heap) (locs : List Loc) (ls : Array Slot), va_P D vwCl (w_X7 cI cB ad_t t_wills t_heirs t_kindOf t_worthOf t_thingOf t_changesOf t_changes t_heard t_heardHeir t_heardOne t_heardTwo t_heardMore t_pageLength t_page t_says t_dealt t_farOf t_endMany t_endMost t_endLeast t_endFew t_seedNow t_saved t_isKept t_keptWill t_keptChanges t_keptHeard t_keptWorth t_keptThing t_keptChangesOf t_keptHeir t_keptOne t_keptTwo t_keptMore t_h) H → va_D A (w_X7 cI cB ad_t t_wills t_heirs t_kindOf t_worthOf t_thingOf t_changesOf t_changes t_heard t_heardHeir t_heardOne t_heardTwo t_heardMore t_pageLength t_page t_says t_dealt t_farOf t_endMany t_endMost t_endLeast t_endFew t_seedNow t_saved t_isKept t_keptWill t_keptChanges t_keptHeard t_keptWorth t_keptThing t_keptChangesOf t_keptHeir t_keptOne t_keptTwo t_keptMore t_h) → va_S A s.heap H locs → lv_has ls 8 [(0, .ref (ad_t 0)), (1, .int x1), (2, .int x2), (3, .int x3), (4, .int x4), (5, .int x5), (6, .int x6)] → back_16 x1 x2 x3 x4 x5 x6 t_kindOf t_says t_dealt = some (rr, g_t_kindOf, g_t_says, g_t_dealt) → W p l e rm_X7_servedNow s m args below meth c H locs 0 0 (Zq D below args s A (w_X7 cI cB ad_t t_wills t_heirs g_t_kindOf t_worthOf t_thingOf t_changesOf t_changes t_heard t_heardHeir t_heardOne t_heardTwo t_heardMore t_pageLength t_page g_t_says g_t_dealt t_farOf t_endMany t_endMost t_endLeast t_endFew t_seedNow t_saved t_isKept t_keptWill t_keptChanges t_keptHeard t_keptWorth t_keptThing t_keptChangesOf t_keptHeir t_keptOne t_keptTwo t_keptMore t_h) (some (.int rr))) (F0 m 16 ls [])) : ∀ (x1 : Int32) (x2 : Int32) (x3 : Int32) (x5 : Int32) (x6 : Int32) (x7 : Int32) (k0 : Int32) (t_kindOf : Nat → Int32) (t_says : Nat → Int32) (t_dealt : Nat → Int32) (H : Heap) (locs : List Loc) (ls : Array Slot), va_P D vwCl (w_X7 cI cB ad_t t_wills t_heirs t_kindOf t_worthOf t_thingOf t_changesOf t_changes t_heard t_heardHeir t_heardOne t_heardTwo t_heardMore t_pageLength t_page t_says t_dealt t_farOf t_endMany t_endMost t_endLeast t_endFew t_seedNow t_saved t_isKept t_keptWill t_keptChanges t_keptHeard t_keptWorth t_keptThing t_keptChangesOf t_keptHeir t_keptOne t_keptTwo t_keptMore t_h) H → va_D A (w_X7 cI cB ad_t t_wills t_heirs t_kindOf t_worthOf t_thingOf t_changesOf t_changes t_heard t_heardHeir t_heardOne t_heardTwo t_heardMore t_pageLength t_page t_says t_dealt t_farOf t_endMany t_endMost t_endLeast t_endFew t_seedNow t_saved t_isKept t_keptWill t_keptChanges t_keptHeard t_keptWorth t_keptThing t_keptChangesOf t_keptHeir t_keptOne t_keptTwo t_keptMore t_h) → va_S A s.heap H locs → lv_has ls 8 [(0, .ref (ad_t 0)), (1, .int x1), (2, .int x2), (3, .int x3), (5, .int x5), (6, .int x6), (7, .int x7)] → f_X7_servedNow_65 t_heirs t_worthOf back_16 x1 x2 x3 x5 x6 x7 k0 t_kindOf t_says t_dealt = some (rr, g_t_kindOf, g_t_says, g_t_dealt) → W p l e rm_X7_servedNow s m args below meth c H locs 0 0 (Zq D below args s A (w_X7 cI cB ad_t t_wills t_heirs g_t_kindOf t_worthOf t_thingOf t_changesOf t_changes t_heard t_heardHeir t_heardOne t_heardTwo t_heardMore t_pageLength t_page g_t_says g_t_dealt t_farOf t_endMany t_endMost t_endLeast t_endFew t_seedNow t_saved t_isKept t_keptWill t_keptChanges t_keptHeard t_keptWorth t_keptThing t_keptChangesOf t_keptHeir t_keptOne t_keptTwo t_keptMore t_h) (some (.int rr))) (F0 m 65 ls [.int k0]) := by
  obtain ⟨hx, hb, hml, hown, hts, hrt, hlocks, hK, hA, hZ⟩ := id F
  intro x1 x2 x3 x5 x6 x7 k0 t_kindOf t_says t_dealt H locs ls hP hD hS hl hf
  refine lv_istore (lv' := [(4, .int k0), (0, .ref (ad_t 0)), (1, .int x1), (2, .int x2), (3, .int x3), (5, .int x5), (6, .int x6), (7, .int x7)]) hx hb dX7_servedNow_65 hl (by decide) rfl (fun ls hl => ?_)
  refine lv_iload hx hb dX7_servedNow_67 (lv_at hl 7 rfl) ?_
  refine lv_iload hx hb dX7_servedNow_69 (lv_at hl 5 rfl) ?_
  refine lv_icmp_le (tgt := 79) hx hb dX7_servedNow_71 (by decide) (fun c1 => ?_) (fun c1 => ?_)
  · replace hf := (if_pos c1).symm.trans hf
    refine lv_iload hx hb dX7_servedNow_79 (lv_at hl 5 rfl) ?_
    exact b_X7_servedNow_81 F back_16 hb_16 x1 x2 x3 k0 x6 x5 t_kindOf t_says t_dealt H locs ls hP hD hS (lv_sub hl [1, 2, 3, 4, 0, 6] rfl) hf
  · replace hf := (if_neg c1).symm.trans hf
    refine lv_iload hx hb dX7_servedNow_74 (lv_at hl 7 rfl) ?_
    refine lv_goto (tgt := 81) hx hb dX7_servedNow_76 (by decide) ?_
    exact b_X7_servedNow_81 F back_16 hb_16 x1 x2 x3 k0 x6 x7 t_kindOf t_says t_dealt H locs ls hP hD hS (lv_sub hl [1, 2, 3, 4, 0, 6] rfl) hf

set_option maxHeartbeats 4000000 in
set_option maxRecDepth 100000 in
theorem b_X7_servedNow_16 {p : Program} {l : Launch} {e : Env} {s : State} {m : MethodId} {args : Array Value} {below : List Frame} {meth : Method} {c : Code} {D : va_G} {cI cB : ClassId} {kK kV : Nat → Nat} {A : Nat → Prop} (F : Fx p m c s meth args cX7_servedNow 8 RX7 wsX7_servedNow (some .int) D cI cB kK kV A) {ad_t : Nat → Nat} {t_wills : Int32} {t_heirs : Int32} {t_worthOf : Nat → Int32} {t_thingOf : Nat → Int32} {t_changesOf : Nat → Int32} {t_changes : Int32} {t_heard : Int32} {t_heardHeir : Nat → Int32} {t_heardOne : Nat → Int32} {t_heardTwo : Nat → Int32} {t_heardMore : Nat → Int32} {t_pageLength : Int32} {t_page : Nat → Int32} {t_farOf : Nat → Int32} {t_endMany : Int32} {t_endMost : Int32} {t_endLeast : Int32} {t_endFew : Int32} {t_seedNow : Int64} {t_saved : Nat → Int32} {t_isKept : Int32} {t_keptWill : Int32} {t_keptChanges : Int32} {t_keptHeard : Int32} {t_keptWorth : Nat → Int32} {t_keptThing : Nat → Int32} {t_keptChangesOf : Nat → Int32} {t_keptHeir : Nat → Int32} {t_keptOne : Nat → Int32} {t_keptTwo : Nat → Int32} {t_keptMore : Nat → Int32} {t_h : Int64} {rr : Int32} {g_t_kindOf : Nat → Int32} {g_t_says : Nat → Int32} {g_t_dealt : Nat → Int32} : ∀ (n : Nat), ∀ (x1 : Int32) (x2 : Int32) (x3 : Int32) (x4 : Int32) (x5 : Int32) (x6 : Int32) (t_kindOf : Nat → Int32) (t_says : Nat → Int32) (t_dealt : Nat → Int32) (H : Heap) (locs : List Loc) (ls : Array Slot), va_P D vwCl (w_X7 cI cB ad_t t_wills t_heirs t_kindOf t_worthOf t_thingOf t_changesOf t_changes t_heard t_heardHeir t_heardOne t_heardTwo t_heardMore t_pageLength t_page t_says t_dealt t_farOf t_endMany t_endMost t_endLeast t_endFew t_seedNow t_saved t_isKept t_keptWill t_keptChanges t_keptHeard t_keptWorth t_keptThing t_keptChangesOf t_keptHeir t_keptOne t_keptTwo t_keptMore t_h) H → va_D A (w_X7 cI cB ad_t t_wills t_heirs t_kindOf t_worthOf t_thingOf t_changesOf t_changes t_heard t_heardHeir t_heardOne t_heardTwo t_heardMore t_pageLength t_page t_says t_dealt t_farOf t_endMany t_endMost t_endLeast t_endFew t_seedNow t_saved t_isKept t_keptWill t_keptChanges t_keptHeard t_keptWorth t_keptThing t_keptChangesOf t_keptHeir t_keptOne t_keptTwo t_keptMore t_h) → va_S A s.heap H locs → lv_has ls 8 [(0, .ref (ad_t 0)), (1, .int x1), (2, .int x2), (3, .int x3), (4, .int x4), (5, .int x5), (6, .int x6)] → f_X7_servedNow_16 t_heirs t_worthOf  n x1 x2 x3 x4 x5 x6 t_kindOf t_says t_dealt = some (rr, g_t_kindOf, g_t_says, g_t_dealt) → W p l e rm_X7_servedNow s m args below meth c H locs 0 0 (Zq D below args s A (w_X7 cI cB ad_t t_wills t_heirs g_t_kindOf t_worthOf t_thingOf t_changesOf t_changes t_heard t_heardHeir t_heardOne t_heardTwo t_heardMore t_pageLength t_page g_t_says g_t_dealt t_farOf t_endMany t_endMost t_endLeast t_endFew t_seedNow t_saved t_isKept t_keptWill t_keptChanges t_keptHeard t_keptWorth t_keptThing t_keptChangesOf t_keptHeir t_keptOne t_keptTwo t_keptMore t_h) (some (.int rr))) (F0 m 16 ls []) := by
  obtain ⟨hx, hb, hml, hown, hts, hrt, hlocks, hK, hA, hZ⟩ := id F
  intro n
  induction n with
  | zero =>
    intro x1 x2 x3 x4 x5 x6 t_kindOf t_says t_dealt H locs ls hP hD hS hl hf
    cases hf
  | succ n ih =>
    intro x1 x2 x3 x4 x5 x6 t_kindOf t_says t_dealt H locs ls hP hD hS hl hf
    refine lv_iload hx hb dX7_servedNow_16 (lv_at hl 6 rfl) ?_
    refine lv_iconst (v := 5) hx hb dX7_servedNow_18 (by decide) ?_
    refine lv_icmp_ge (tgt := 89) hx hb dX7_servedNow_19 (by decide) (fun c1 => ?_) (fun c1 => ?_)
    · replace hf := (if_pos c1).symm.trans hf
      refine lv_aload_n hx hb dX7_servedNow_89 rfl (lv_at hl 0 rfl) ?_
      refine gf F hP in_X7_servedNow_X7 0 rfl rfl 2 (by decide) 1 rfl rfl dX7_servedNow_90 ?_
      refine lv_iload_n hx hb dX7_servedNow_93 rfl (lv_at hl 1 rfl) ?_
      refine lv_iload_n hx hb dX7_servedNow_94 rfl (lv_at hl 3 rfl) ?_
      obtain ⟨g2, eg2, hf⟩ := bnd hf
      refine ast F hP hD hS 1 rfl eg2 dX7_servedNow_95 (w_X7 cI cB ad_t t_wills t_heirs g2 t_worthOf t_thingOf t_changesOf t_changes t_heard t_heardHeir t_heardOne t_heardTwo t_heardMore t_pageLength t_page t_says t_dealt t_farOf t_endMany t_endMost t_endLeast t_endFew t_seedNow t_saved t_isKept t_keptWill t_keptChanges t_keptHeard t_keptWorth t_keptThing t_keptChangesOf t_keptHeir t_keptOne t_keptTwo t_keptMore t_h) rfl (fun H locs hP hD hS => ?_)
      refine lv_iload_n hx hb dX7_servedNow_96 rfl (lv_at hl 2 rfl) ?_
      refine lv_if_ne (tgt := 105) hx hb dX7_servedNow_97 (by decide) (fun c3 => ?_) (fun c3 => ?_)
      · replace hf := (if_neg c3).symm.trans hf
        refine lv_iload hx hb dX7_servedNow_105 (lv_at hl 5 rfl) ?_
        replace hf : (some (x5, g2, t_says, t_dealt) : Option (Int32 × (Nat → Int32) × (Nat → Int32) × (Nat → Int32))) = some (rr, g_t_kindOf, g_t_says, g_t_dealt) := hf
        cases hf
        exact ret_i F hP hS dX7_servedNow_107
      · replace hf := (if_pos c3).symm.trans hf
        refine lv_iload hx hb dX7_servedNow_100 (lv_at hl 4 rfl) ?_
        refine lv_goto (tgt := 107) hx hb dX7_servedNow_102 (by decide) ?_
        replace hf : (some (x4, g2, t_says, t_dealt) : Option (Int32 × (Nat → Int32) × (Nat → Int32) × (Nat → Int32))) = some (rr, g_t_kindOf, g_t_says, g_t_dealt) := hf
        cases hf
        exact ret_i F hP hS dX7_servedNow_107
    · replace hf := (if_neg c1).symm.trans hf
      refine lv_aload_n hx hb dX7_servedNow_22 rfl (lv_at hl 0 rfl) ?_
      refine gf F hP in_X7_servedNow_X7 0 rfl rfl 2 (by decide) 1 rfl rfl dX7_servedNow_23 ?_
      refine lv_iload_n hx hb dX7_servedNow_26 rfl (lv_at hl 1 rfl) ?_
      refine lv_iload hx hb dX7_servedNow_27 (lv_at hl 6 rfl) ?_
      obtain ⟨g4, eg4, hf⟩ := bnd hf
      refine ast F hP hD hS 1 rfl eg4 dX7_servedNow_29 (w_X7 cI cB ad_t t_wills t_heirs g4 t_worthOf t_thingOf t_changesOf t_changes t_heard t_heardHeir t_heardOne t_heardTwo t_heardMore t_pageLength t_page t_says t_dealt t_farOf t_endMany t_endMost t_endLeast t_endFew t_seedNow t_saved t_isKept t_keptWill t_keptChanges t_keptHeard t_keptWorth t_keptThing t_keptChangesOf t_keptHeir t_keptOne t_keptTwo t_keptMore t_h) rfl (fun H locs hP hD hS => ?_)
      refine lv_aload_n hx hb dX7_servedNow_30 rfl (lv_at hl 0 rfl) ?_
      obtain ⟨⟨g5, g6⟩, e7, hf⟩ := bnd hf
      refine cV F hP hD hS (k_X7_layDeal l ad_t t_wills t_heirs g4 t_worthOf t_thingOf t_changesOf t_changes t_heard t_heardHeir t_heardOne t_heardTwo t_heardMore t_pageLength t_page t_says t_dealt t_farOf t_endMany t_endMost t_endLeast t_endFew t_seedNow t_saved t_isKept t_keptWill t_keptChanges t_keptHeard t_keptWorth t_keptThing t_keptChangesOf t_keptHeir t_keptOne t_keptTwo t_keptMore t_h  e7) gX7_servedNow_X7_layDeal rfl ⟨rfl, rfl⟩ nd_X7_layDeal ⟨Nat.le_of_ble_eq_true rfl, Nat.le_of_ble_eq_true rfl⟩ 0 7 rfl rfl rfl hl.1 rfl (Nat.le_of_ble_eq_true rfl) dX7_servedNow_31 (pm0 (w_X7 cI cB ad_t t_wills t_heirs g4 t_worthOf t_thingOf t_changesOf t_changes t_heard t_heardHeir t_heardOne t_heardTwo t_heardMore t_pageLength t_page t_says t_dealt t_farOf t_endMany t_endMost t_endLeast t_endFew t_seedNow t_saved t_isKept t_keptWill t_keptChanges t_keptHeard t_keptWorth t_keptThing t_keptChangesOf t_keptHeir t_keptOne t_keptTwo t_keptMore t_h)) (pm0 (w_X7 cI cB ad_t t_wills t_heirs g4 t_worthOf t_thingOf t_changesOf t_changes t_heard t_heardHeir t_heardOne t_heardTwo t_heardMore t_pageLength t_page g5 g6 t_farOf t_endMany t_endMost t_endLeast t_endFew t_seedNow t_saved t_isKept t_keptWill t_keptChanges t_keptHeard t_keptWorth t_keptThing t_keptChangesOf t_keptHeir t_keptOne t_keptTwo t_keptMore t_h)) (fun H locs hP hD hS => ?_)
      refine lv_aload_n hx hb dX7_servedNow_34 rfl (lv_at hl 0 rfl) ?_
      refine gf F hP in_X7_servedNow_X7 0 rfl rfl 3 (by decide) 2 rfl rfl dX7_servedNow_35 ?_
      refine lv_iconst (v := 4) hx hb dX7_servedNow_38 (by decide) ?_
      refine lv_iload_n hx hb dX7_servedNow_39 rfl (lv_at hl 1 rfl) ?_
      refine lv_imul hx hb dX7_servedNow_40 ?_
      refine lv_aload_n hx hb dX7_servedNow_41 rfl (lv_at hl 0 rfl) ?_
      refine gf F hP in_X7_servedNow_X7 0 rfl rfl 15 (by decide) 3 rfl rfl dX7_servedNow_42 ?_
      refine lv_iload_n hx hb dX7_servedNow_45 rfl (lv_at hl 1 rfl) ?_
      obtain ⟨v8, ev8, hf⟩ := bnd hf
      refine ald F hP 11 rfl ev8 dX7_servedNow_46 ?_
      refine lv_iadd hx hb dX7_servedNow_47 ?_
      obtain ⟨v9, ev9, hf⟩ := bnd hf
      refine ald F hP 2 rfl ev9 dX7_servedNow_48 ?_
      refine lv_istore (lv' := [(7, .int v9), (0, .ref (ad_t 0)), (1, .int x1), (2, .int x2), (3, .int x3), (4, .int x4), (5, .int x5), (6, .int x6)]) hx hb dX7_servedNow_49 hl (by decide) rfl (fun ls hl => ?_)
      refine lv_iload hx hb dX7_servedNow_51 (lv_at hl 0 rfl) ?_
      refine lv_iload hx hb dX7_servedNow_53 (lv_at hl 6 rfl) ?_
      refine lv_icmp_le (tgt := 63) hx hb dX7_servedNow_55 (by decide) (fun c10 => ?_) (fun c10 => ?_)
      · replace hf := (if_pos c10).symm.trans hf
        refine lv_iload hx hb dX7_servedNow_63 (lv_at hl 5 rfl) ?_
        exact b_X7_servedNow_65 F (f_X7_servedNow_16 t_heirs t_worthOf  n) ih x1 x2 x3 x5 x6 v9 x4 g4 g5 g6 H locs ls hP hD hS (lv_sub hl [1, 2, 3, 4, 6, 7, 0] rfl) hf
      · replace hf := (if_neg c10).symm.trans hf
        refine lv_iload hx hb dX7_servedNow_58 (lv_at hl 7 rfl) ?_
        refine lv_goto (tgt := 65) hx hb dX7_servedNow_60 (by decide) ?_
        exact b_X7_servedNow_65 F (f_X7_servedNow_16 t_heirs t_worthOf  n) ih x1 x2 x3 x5 x6 v9 x6 g4 g5 g6 H locs ls hP hD hS (lv_sub hl [1, 2, 3, 4, 6, 7, 0] rfl) hf

set_option maxHeartbeats 4000000 in
set_option maxRecDepth 100000 in
theorem k_X7_servedNow (l : Launch) {D : va_G} {cI cB : ClassId} {kK kV : Nat → Nat} (ad_t : Nat → Nat) (t_wills : Int32) (t_heirs : Int32) (t_kindOf : Nat → Int32) (t_worthOf : Nat → Int32) (t_thingOf : Nat → Int32) (t_changesOf : Nat → Int32) (t_changes : Int32) (t_heard : Int32) (t_heardHeir : Nat → Int32) (t_heardOne : Nat → Int32) (t_heardTwo : Nat → Int32) (t_heardMore : Nat → Int32) (t_pageLength : Int32) (t_page : Nat → Int32) (t_says : Nat → Int32) (t_dealt : Nat → Int32) (t_farOf : Nat → Int32) (t_endMany : Int32) (t_endMost : Int32) (t_endLeast : Int32) (t_endFew : Int32) (t_seedNow : Int64) (t_saved : Nat → Int32) (t_isKept : Int32) (t_keptWill : Int32) (t_keptChanges : Int32) (t_keptHeard : Int32) (t_keptWorth : Nat → Int32) (t_keptThing : Nat → Int32) (t_keptChangesOf : Nat → Int32) (t_keptHeir : Nat → Int32) (t_keptOne : Nat → Int32) (t_keptTwo : Nat → Int32) (t_keptMore : Nat → Int32) (t_h : Int64) (x1 : Int32) (x2 : Int32) {rr : Int32} {g_t_kindOf : Nat → Int32} {g_t_says : Nat → Int32} {g_t_dealt : Nat → Int32} (hf : f_X7_servedNow t_heirs t_kindOf t_worthOf t_says t_dealt x1 x2 = some (rr, g_t_kindOf, g_t_says, g_t_dealt)) : Ct l yX7_servedNow wsX7_servedNow rm_X7_servedNow D cI cB kK kV [.ref (ad_t 0), .int x1, .int x2] (w_X7 cI cB ad_t t_wills t_heirs t_kindOf t_worthOf t_thingOf t_changesOf t_changes t_heard t_heardHeir t_heardOne t_heardTwo t_heardMore t_pageLength t_page t_says t_dealt t_farOf t_endMany t_endMost t_endLeast t_endFew t_seedNow t_saved t_isKept t_keptWill t_keptChanges t_keptHeard t_keptWorth t_keptThing t_keptChangesOf t_keptHeir t_keptOne t_keptTwo t_keptMore t_h) (w_X7 cI cB ad_t t_wills t_heirs g_t_kindOf t_worthOf t_thingOf t_changesOf t_changes t_heard t_heardHeir t_heardOne t_heardTwo t_heardMore t_pageLength t_page g_t_says g_t_dealt t_farOf t_endMany t_endMost t_endLeast t_endFew t_seedNow t_saved t_isKept t_keptWill t_keptChanges t_keptHeard t_keptWorth t_keptThing t_keptChangesOf t_keptHeir t_keptOne t_keptTwo t_keptMore t_h) (some (.int rr)) := by
  refine Ct.of (cc := cX7_servedNow) (maxL := 8) (ret := (some .int)) (by decide) rfl (Nat.le_of_ble_eq_true rfl) rfl ?_
  intro p e s m below meth c A ls F hP hD hS hl
  have hl : lv_has ls 8 [(0, .ref (ad_t 0)), (1, .int x1), (2, .int x2)] := hl
  obtain ⟨hx, hb, hml, hown, hts, hrt, hlocks, hK, hA, hZ⟩ := id F
  obtain ⟨H, hH⟩ : ∃ H, H = s.heap := ⟨_, rfl⟩
  obtain ⟨locs, hLo⟩ : ∃ q : List Loc, q = [] := ⟨_, rfl⟩
  refine (?_ : W p l e rm_X7_servedNow s m _ below meth c s.heap [] 0 0 _ _)
  rw [← hH, ← hLo]
  rw [← hH] at hP
  have hS : va_S A s.heap H locs := by rw [hH, hLo]; exact hS
  refine lv_aload_n hx hb dX7_servedNow_0 rfl (lv_at hl 0 rfl) ?_
  refine gf F hP in_X7_servedNow_X7 0 rfl rfl 2 (by decide) 1 rfl rfl dX7_servedNow_1 ?_
  refine lv_iload_n hx hb dX7_servedNow_4 rfl (lv_at hl 1 rfl) ?_
  obtain ⟨v1, ev1, hf⟩ := bnd hf
  refine ald F hP 1 rfl ev1 dX7_servedNow_5 ?_
  refine lv_istore_n (lv' := [(3, .int v1), (0, .ref (ad_t 0)), (1, .int x1), (2, .int x2)]) hx hb dX7_servedNow_6 rfl hl (by decide) rfl (fun ls hl => ?_)
  refine lv_iconst (v := (-1)) hx hb dX7_servedNow_7 (by decide) ?_
  refine lv_istore (lv' := [(4, .int (-1)), (3, .int v1), (0, .ref (ad_t 0)), (1, .int x1), (2, .int x2)]) hx hb dX7_servedNow_8 hl (by decide) rfl (fun ls hl => ?_)
  refine lv_iconst (v := (-1)) hx hb dX7_servedNow_10 (by decide) ?_
  refine lv_istore (lv' := [(5, .int (-1)), (4, .int (-1)), (3, .int v1), (0, .ref (ad_t 0)), (1, .int x1), (2, .int x2)]) hx hb dX7_servedNow_11 hl (by decide) rfl (fun ls hl => ?_)
  refine lv_iconst (v := 0) hx hb dX7_servedNow_13 (by decide) ?_
  refine lv_istore (lv' := [(6, .int 0), (5, .int (-1)), (4, .int (-1)), (3, .int v1), (0, .ref (ad_t 0)), (1, .int x1), (2, .int x2)]) hx hb dX7_servedNow_14 hl (by decide) rfl (fun ls hl => ?_)
  exact b_X7_servedNow_16 F 300 x1 x2 v1 (-1) (-1) 0 t_kindOf t_says t_dealt H locs ls hP hD hS (lv_sub hl [4, 5, 6, 3, 2, 1, 0] rfl) hf

/-! X7_served -/
def rm_X7_served : Room := { frames := 4, cells := 0, slots := 0, locals := 97 }
theorem nd_X7_served : yX7_served.cls = RX7 ∧ yX7_served.cls ≠ "java/lang/invoke/MethodHandle" ∧ yX7_served.cls ≠ "java/lang/invoke/VarHandle" ∧ (parseMethodDescriptor yX7_served.desc).map (fun d => d.parameters.length) = some 2 := by decide +kernel
def f_X7_served (t_heirs : Int32) (t_kindOf : Nat → Int32) (t_worthOf : Nat → Int32) (t_says : Nat → Int32) (t_dealt : Nat → Int32) (x1 : Int32) (x2 : Int32) : Option (Int32 × (Nat → Int32) × (Nat → Int32) × (Nat → Int32)) := (f_X7_isHeir t_heirs x1).bind (fun v1 => (if v1 = 0 then some ((-101), t_kindOf, t_says, t_dealt) else (f_X7_within x2 0 1).bind (fun v4 => (if v4 = 0 then some ((-102), t_kindOf, t_says, t_dealt) else (f_X7_servedNow t_heirs t_kindOf t_worthOf t_says t_dealt x1 x2).bind (fun (v7, g8, g9, g10) => some (v7, g8, g9, g10))))))
set_option maxHeartbeats 4000000 in
set_option maxRecDepth 100000 in
theorem k_X7_served (l : Launch) {D : va_G} {cI cB : ClassId} {kK kV : Nat → Nat} (ad_t : Nat → Nat) (t_wills : Int32) (t_heirs : Int32) (t_kindOf : Nat → Int32) (t_worthOf : Nat → Int32) (t_thingOf : Nat → Int32) (t_changesOf : Nat → Int32) (t_changes : Int32) (t_heard : Int32) (t_heardHeir : Nat → Int32) (t_heardOne : Nat → Int32) (t_heardTwo : Nat → Int32) (t_heardMore : Nat → Int32) (t_pageLength : Int32) (t_page : Nat → Int32) (t_says : Nat → Int32) (t_dealt : Nat → Int32) (t_farOf : Nat → Int32) (t_endMany : Int32) (t_endMost : Int32) (t_endLeast : Int32) (t_endFew : Int32) (t_seedNow : Int64) (t_saved : Nat → Int32) (t_isKept : Int32) (t_keptWill : Int32) (t_keptChanges : Int32) (t_keptHeard : Int32) (t_keptWorth : Nat → Int32) (t_keptThing : Nat → Int32) (t_keptChangesOf : Nat → Int32) (t_keptHeir : Nat → Int32) (t_keptOne : Nat → Int32) (t_keptTwo : Nat → Int32) (t_keptMore : Nat → Int32) (t_h : Int64) (x1 : Int32) (x2 : Int32) {rr : Int32} {g_t_kindOf : Nat → Int32} {g_t_says : Nat → Int32} {g_t_dealt : Nat → Int32} (hf : f_X7_served t_heirs t_kindOf t_worthOf t_says t_dealt x1 x2 = some (rr, g_t_kindOf, g_t_says, g_t_dealt)) : Ct l yX7_served wsX7_served rm_X7_served D cI cB kK kV [.ref (ad_t 0), .int x1, .int x2] (w_X7 cI cB ad_t t_wills t_heirs t_kindOf t_worthOf t_thingOf t_changesOf t_changes t_heard t_heardHeir t_heardOne t_heardTwo t_heardMore t_pageLength t_page t_says t_dealt t_farOf t_endMany t_endMost t_endLeast t_endFew t_seedNow t_saved t_isKept t_keptWill t_keptChanges t_keptHeard t_keptWorth t_keptThing t_keptChangesOf t_keptHeir t_keptOne t_keptTwo t_keptMore t_h) (w_X7 cI cB ad_t t_wills t_heirs g_t_kindOf t_worthOf t_thingOf t_changesOf t_changes t_heard t_heardHeir t_heardOne t_heardTwo t_heardMore t_pageLength t_page g_t_says g_t_dealt t_farOf t_endMany t_endMost t_endLeast t_endFew t_seedNow t_saved t_isKept t_keptWill t_keptChanges t_keptHeard t_keptWorth t_keptThing t_keptChangesOf t_keptHeir t_keptOne t_keptTwo t_keptMore t_h) (some (.int rr)) := by
  refine Ct.of (cc := cX7_served) (maxL := 3) (ret := (some .int)) (by decide) rfl (Nat.le_of_ble_eq_true rfl) rfl ?_
  intro p e s m below meth c A ls F hP hD hS hl
  have hl : lv_has ls 3 [(0, .ref (ad_t 0)), (1, .int x1), (2, .int x2)] := hl
  obtain ⟨hx, hb, hml, hown, hts, hrt, hlocks, hK, hA, hZ⟩ := id F
  obtain ⟨H, hH⟩ : ∃ H, H = s.heap := ⟨_, rfl⟩
  obtain ⟨locs, hLo⟩ : ∃ q : List Loc, q = [] := ⟨_, rfl⟩
  refine (?_ : W p l e rm_X7_served s m _ below meth c s.heap [] 0 0 _ _)
  rw [← hH, ← hLo]
  rw [← hH] at hP
  have hS : va_S A s.heap H locs := by rw [hH, hLo]; exact hS
  refine lv_aload_n hx hb dX7_served_0 rfl (lv_at hl 0 rfl) ?_
  refine lv_iload_n hx hb dX7_served_1 rfl (lv_at hl 1 rfl) ?_
  obtain ⟨v1, e2, hf⟩ := bnd hf
  refine cV F hP hD hS (k_X7_isHeir l ad_t t_wills t_heirs t_kindOf t_worthOf t_thingOf t_changesOf t_changes t_heard t_heardHeir t_heardOne t_heardTwo t_heardMore t_pageLength t_page t_says t_dealt t_farOf t_endMany t_endMost t_endLeast t_endFew t_seedNow t_saved t_isKept t_keptWill t_keptChanges t_keptHeard t_keptWorth t_keptThing t_keptChangesOf t_keptHeir t_keptOne t_keptTwo t_keptMore t_h x1 e2) gX7_served_X7_isHeir rfl ⟨rfl, rfl⟩ nd_X7_isHeir ⟨Nat.le_of_ble_eq_true rfl, Nat.le_of_ble_eq_true rfl⟩ 0 7 rfl rfl rfl hl.1 rfl (Nat.le_of_ble_eq_true rfl) dX7_served_2 (pm0 (w_X7 cI cB ad_t t_wills t_heirs t_kindOf t_worthOf t_thingOf t_changesOf t_changes t_heard t_heardHeir t_heardOne t_heardTwo t_heardMore t_pageLength t_page t_says t_dealt t_farOf t_endMany t_endMost t_endLeast t_endFew t_seedNow t_saved t_isKept t_keptWill t_keptChanges t_keptHeard t_keptWorth t_keptThing t_keptChangesOf t_keptHeir t_keptOne t_keptTwo t_keptMore t_h)) (pm0 (w_X7 cI cB ad_t t_wills t_heirs t_kindOf t_worthOf t_thingOf t_changesOf t_changes t_heard t_heardHeir t_heardOne t_heardTwo t_heardMore t_pageLength t_page t_says t_dealt t_farOf t_endMany t_endMost t_endLeast t_endFew t_seedNow t_saved t_isKept t_keptWill t_keptChanges t_keptHeard t_keptWorth t_keptThing t_keptChangesOf t_keptHeir t_keptOne t_keptTwo t_keptMore t_h)) (fun H locs hP hD hS => ?_)
  refine lv_if_ne (tgt := 11) hx hb dX7_served_5 (by decide) (fun c3 => ?_) (fun c3 => ?_)
  · replace hf := (if_neg c3).symm.trans hf
    refine lv_iload_n hx hb dX7_served_11 rfl (lv_at hl 2 rfl) ?_
    refine lv_iconst (v := 0) hx hb dX7_served_12 (by decide) ?_
    refine lv_iconst (v := 1) hx hb dX7_served_13 (by decide) ?_
    obtain ⟨v4, e5, hf⟩ := bnd hf
    refine cS F hP hD hS (k_X7_within l  x2 0 1 e5) gX7_served_X7_within rfl ⟨rfl, rfl⟩ nd_X7_within ⟨Nat.le_of_ble_eq_true rfl, Nat.le_of_ble_eq_true rfl⟩ rfl hl.1 rfl (Nat.le_of_ble_eq_true rfl) dX7_served_14 (pmE (w_X7 cI cB ad_t t_wills t_heirs t_kindOf t_worthOf t_thingOf t_changesOf t_changes t_heard t_heardHeir t_heardOne t_heardTwo t_heardMore t_pageLength t_page t_says t_dealt t_farOf t_endMany t_endMost t_endLeast t_endFew t_seedNow t_saved t_isKept t_keptWill t_keptChanges t_keptHeard t_keptWorth t_keptThing t_keptChangesOf t_keptHeir t_keptOne t_keptTwo t_keptMore t_h)) (pmE (w_X7 cI cB ad_t t_wills t_heirs t_kindOf t_worthOf t_thingOf t_changesOf t_changes t_heard t_heardHeir t_heardOne t_heardTwo t_heardMore t_pageLength t_page t_says t_dealt t_farOf t_endMany t_endMost t_endLeast t_endFew t_seedNow t_saved t_isKept t_keptWill t_keptChanges t_keptHeard t_keptWorth t_keptThing t_keptChangesOf t_keptHeir t_keptOne t_keptTwo t_keptMore t_h)) (fun H locs hP hD hS => ?_)
    refine lv_if_eq (tgt := 29) hx hb dX7_served_17 (by decide) (fun c6 => ?_) (fun c6 => ?_)
    · replace hf := (if_pos c6).symm.trans hf
      refine lv_bipush (v := (-102)) hx hb dX7_served_29 (by decide) ?_
      replace hf : (some ((-102), t_kindOf, t_says, t_dealt) : Option (Int32 × (Nat → Int32) × (Nat → Int32) × (Nat → Int32))) = some (rr, g_t_kindOf, g_t_says, g_t_dealt) := hf
      cases hf
      exact ret_i F hP hS dX7_served_31
    · replace hf := (if_neg c6).symm.trans hf
      refine lv_aload_n hx hb dX7_served_20 rfl (lv_at hl 0 rfl) ?_
      refine lv_iload_n hx hb dX7_served_21 rfl (lv_at hl 1 rfl) ?_
      refine lv_iload_n hx hb dX7_served_22 rfl (lv_at hl 2 rfl) ?_
      obtain ⟨⟨v7, g8, g9, g10⟩, e11, hf⟩ := bnd hf
      refine cV F hP hD hS (k_X7_servedNow l ad_t t_wills t_heirs t_kindOf t_worthOf t_thingOf t_changesOf t_changes t_heard t_heardHeir t_heardOne t_heardTwo t_heardMore t_pageLength t_page t_says t_dealt t_farOf t_endMany t_endMost t_endLeast t_endFew t_seedNow t_saved t_isKept t_keptWill t_keptChanges t_keptHeard t_keptWorth t_keptThing t_keptChangesOf t_keptHeir t_keptOne t_keptTwo t_keptMore t_h x1 x2 e11) gX7_served_X7_servedNow rfl ⟨rfl, rfl⟩ nd_X7_servedNow ⟨Nat.le_of_ble_eq_true rfl, Nat.le_of_ble_eq_true rfl⟩ 0 7 rfl rfl rfl hl.1 rfl (Nat.le_of_ble_eq_true rfl) dX7_served_23 (pm0 (w_X7 cI cB ad_t t_wills t_heirs t_kindOf t_worthOf t_thingOf t_changesOf t_changes t_heard t_heardHeir t_heardOne t_heardTwo t_heardMore t_pageLength t_page t_says t_dealt t_farOf t_endMany t_endMost t_endLeast t_endFew t_seedNow t_saved t_isKept t_keptWill t_keptChanges t_keptHeard t_keptWorth t_keptThing t_keptChangesOf t_keptHeir t_keptOne t_keptTwo t_keptMore t_h)) (pm0 (w_X7 cI cB ad_t t_wills t_heirs g8 t_worthOf t_thingOf t_changesOf t_changes t_heard t_heardHeir t_heardOne t_heardTwo t_heardMore t_pageLength t_page g9 g10 t_farOf t_endMany t_endMost t_endLeast t_endFew t_seedNow t_saved t_isKept t_keptWill t_keptChanges t_keptHeard t_keptWorth t_keptThing t_keptChangesOf t_keptHeir t_keptOne t_keptTwo t_keptMore t_h)) (fun H locs hP hD hS => ?_)
      refine lv_goto (tgt := 31) hx hb dX7_served_26 (by decide) ?_
      replace hf : (some (v7, g8, g9, g10) : Option (Int32 × (Nat → Int32) × (Nat → Int32) × (Nat → Int32))) = some (rr, g_t_kindOf, g_t_says, g_t_dealt) := hf
      cases hf
      exact ret_i F hP hS dX7_served_31
  · replace hf := (if_pos c3).symm.trans hf
    refine lv_bipush (v := (-101)) hx hb dX7_served_8 (by decide) ?_
    replace hf : (some ((-101), t_kindOf, t_says, t_dealt) : Option (Int32 × (Nat → Int32) × (Nat → Int32) × (Nat → Int32))) = some (rr, g_t_kindOf, g_t_says, g_t_dealt) := hf
    cases hf
    exact ret_i F hP hS dX7_served_10

/-! X7_thingBy -/
def rm_X7_thingBy : Room := { frames := 0, cells := 0, slots := 0, locals := 0 }
theorem in_X7_thingBy_X7 : ∀ w ∈ u_ws RX7 TX7 35, w ∈ wsX7_thingBy := fun _ h => List.mem_cons_of_mem _ (List.mem_append_right _ (h))
theorem nd_X7_thingBy : yX7_thingBy.cls = RX7 ∧ yX7_thingBy.cls ≠ "java/lang/invoke/MethodHandle" ∧ yX7_thingBy.cls ≠ "java/lang/invoke/VarHandle" ∧ (parseMethodDescriptor yX7_thingBy.desc).map (fun d => d.parameters.length) = some 2 := by decide +kernel
def f_X7_thingBy (t_heirs : Int32) (x1 : Int32) (x2 : Int32) : Option (Int32) := some ((x1 >>> ((2 * ((t_heirs - 1) - x2)) &&& 31)) &&& 3)
set_option maxHeartbeats 4000000 in
set_option maxRecDepth 100000 in
theorem k_X7_thingBy (l : Launch) {D : va_G} {cI cB : ClassId} {kK kV : Nat → Nat} (ad_t : Nat → Nat) (t_wills : Int32) (t_heirs : Int32) (t_kindOf : Nat → Int32) (t_worthOf : Nat → Int32) (t_thingOf : Nat → Int32) (t_changesOf : Nat → Int32) (t_changes : Int32) (t_heard : Int32) (t_heardHeir : Nat → Int32) (t_heardOne : Nat → Int32) (t_heardTwo : Nat → Int32) (t_heardMore : Nat → Int32) (t_pageLength : Int32) (t_page : Nat → Int32) (t_says : Nat → Int32) (t_dealt : Nat → Int32) (t_farOf : Nat → Int32) (t_endMany : Int32) (t_endMost : Int32) (t_endLeast : Int32) (t_endFew : Int32) (t_seedNow : Int64) (t_saved : Nat → Int32) (t_isKept : Int32) (t_keptWill : Int32) (t_keptChanges : Int32) (t_keptHeard : Int32) (t_keptWorth : Nat → Int32) (t_keptThing : Nat → Int32) (t_keptChangesOf : Nat → Int32) (t_keptHeir : Nat → Int32) (t_keptOne : Nat → Int32) (t_keptTwo : Nat → Int32) (t_keptMore : Nat → Int32) (t_h : Int64) (x1 : Int32) (x2 : Int32) {rr : Int32}  (hf : f_X7_thingBy t_heirs x1 x2 = some rr) : Ct l yX7_thingBy wsX7_thingBy rm_X7_thingBy D cI cB kK kV [.ref (ad_t 0), .int x1, .int x2] (w_X7 cI cB ad_t t_wills t_heirs t_kindOf t_worthOf t_thingOf t_changesOf t_changes t_heard t_heardHeir t_heardOne t_heardTwo t_heardMore t_pageLength t_page t_says t_dealt t_farOf t_endMany t_endMost t_endLeast t_endFew t_seedNow t_saved t_isKept t_keptWill t_keptChanges t_keptHeard t_keptWorth t_keptThing t_keptChangesOf t_keptHeir t_keptOne t_keptTwo t_keptMore t_h) (w_X7 cI cB ad_t t_wills t_heirs t_kindOf t_worthOf t_thingOf t_changesOf t_changes t_heard t_heardHeir t_heardOne t_heardTwo t_heardMore t_pageLength t_page t_says t_dealt t_farOf t_endMany t_endMost t_endLeast t_endFew t_seedNow t_saved t_isKept t_keptWill t_keptChanges t_keptHeard t_keptWorth t_keptThing t_keptChangesOf t_keptHeir t_keptOne t_keptTwo t_keptMore t_h) (some (.int rr)) := by
  refine Ct.of (cc := cX7_thingBy) (maxL := 3) (ret := (some .int)) (by decide) rfl (Nat.le_of_ble_eq_true rfl) rfl ?_
  intro p e s m below meth c A ls F hP hD hS hl
  have hl : lv_has ls 3 [(0, .ref (ad_t 0)), (1, .int x1), (2, .int x2)] := hl
  obtain ⟨hx, hb, hml, hown, hts, hrt, hlocks, hK, hA, hZ⟩ := id F
  obtain ⟨H, hH⟩ : ∃ H, H = s.heap := ⟨_, rfl⟩
  obtain ⟨locs, hLo⟩ : ∃ q : List Loc, q = [] := ⟨_, rfl⟩
  refine (?_ : W p l e rm_X7_thingBy s m _ below meth c s.heap [] 0 0 _ _)
  rw [← hH, ← hLo]
  rw [← hH] at hP
  have hS : va_S A s.heap H locs := by rw [hH, hLo]; exact hS
  refine lv_iload_n hx hb dX7_thingBy_0 rfl (lv_at hl 1 rfl) ?_
  refine lv_iconst (v := 2) hx hb dX7_thingBy_1 (by decide) ?_
  refine lv_aload_n hx hb dX7_thingBy_2 rfl (lv_at hl 0 rfl) ?_
  refine gf F hP in_X7_thingBy_X7 0 rfl rfl 1 (by decide) 1 rfl rfl dX7_thingBy_3 ?_
  refine lv_iconst (v := 1) hx hb dX7_thingBy_6 (by decide) ?_
  refine lv_isub hx hb dX7_thingBy_7 ?_
  refine lv_iload_n hx hb dX7_thingBy_8 rfl (lv_at hl 2 rfl) ?_
  refine lv_isub hx hb dX7_thingBy_9 ?_
  refine lv_imul hx hb dX7_thingBy_10 ?_
  refine lv_ishr hx hb dX7_thingBy_11 ?_
  refine lv_iconst (v := 3) hx hb dX7_thingBy_12 (by decide) ?_
  refine lv_iand hx hb dX7_thingBy_13 ?_
  replace hf : (some ((x1 >>> ((2 * ((t_heirs - 1) - x2)) &&& 31)) &&& 3) : Option (Int32)) = some rr := hf
  cases hf
  exact ret_i F hP hS dX7_thingBy_14

/-! X7_worstBy -/
def rm_X7_worstBy : Room := { frames := 1, cells := 0, slots := 0, locals := 22 }
theorem in_X7_worstBy_X7 : ∀ w ∈ u_ws RX7 TX7 35, w ∈ wsX7_worstBy := fun _ h => List.mem_cons_of_mem _ (List.mem_append_right _ (h))
theorem nd_X7_worstBy : yX7_worstBy.cls = RX7 ∧ yX7_worstBy.cls ≠ "java/lang/invoke/MethodHandle" ∧ yX7_worstBy.cls ≠ "java/lang/invoke/VarHandle" ∧ (parseMethodDescriptor yX7_worstBy.desc).map (fun d => d.parameters.length) = some 1 := by decide +kernel
def f_X7_worstBy_7 (t_heirs : Int32) (t_worthOf : Nat → Int32)  : Nat → Int32 → Int32 → Int32 → Int32 → Option (Int32)
  | 0, _, _, _, _ => none
  | n + 1, x1, x2, x3, x4 => (if t_heirs ≤ x4 then some x3 else (f_X7_thingBy t_heirs x1 x4).bind (fun v2 => (f_X7_isIn x2 v2).bind (fun v4 => (if v4 = 0 then (rd t_worthOf 16 ((4 * x4) + v2)).bind (fun v7 => f_X7_worstBy_7 t_heirs t_worthOf  n x1 (x2 ||| ((1 : Int32) <<< (v2 &&& 31))) (x3 + v7) (x4 + 1)) else some 268435456))))
def f_X7_worstBy (t_heirs : Int32) (t_worthOf : Nat → Int32) (x1 : Int32) : Option (Int32) := f_X7_worstBy_7 t_heirs t_worthOf 300 x1 0 0 0
set_option maxHeartbeats 4000000 in
set_option maxRecDepth 100000 in
theorem b_X7_worstBy_7 {p : Program} {l : Launch} {e : Env} {s : State} {m : MethodId} {args : Array Value} {below : List Frame} {meth : Method} {c : Code} {D : va_G} {cI cB : ClassId} {kK kV : Nat → Nat} {A : Nat → Prop} (F : Fx p m c s meth args cX7_worstBy 6 RX7 wsX7_worstBy (some .int) D cI cB kK kV A) {ad_t : Nat → Nat} {t_wills : Int32} {t_heirs : Int32} {t_kindOf : Nat → Int32} {t_worthOf : Nat → Int32} {t_thingOf : Nat → Int32} {t_changesOf : Nat → Int32} {t_changes : Int32} {t_heard : Int32} {t_heardHeir : Nat → Int32} {t_heardOne : Nat → Int32} {t_heardTwo : Nat → Int32} {t_heardMore : Nat → Int32} {t_pageLength : Int32} {t_page : Nat → Int32} {t_says : Nat → Int32} {t_dealt : Nat → Int32} {t_farOf : Nat → Int32} {t_endMany : Int32} {t_endMost : Int32} {t_endLeast : Int32} {t_endFew : Int32} {t_seedNow : Int64} {t_saved : Nat → Int32} {t_isKept : Int32} {t_keptWill : Int32} {t_keptChanges : Int32} {t_keptHeard : Int32} {t_keptWorth : Nat → Int32} {t_keptThing : Nat → Int32} {t_keptChangesOf : Nat → Int32} {t_keptHeir : Nat → Int32} {t_keptOne : Nat → Int32} {t_keptTwo : Nat → Int32} {t_keptMore : Nat → Int32} {t_h : Int64} {rr : Int32}  : ∀ (n : Nat), ∀ (x1 : Int32) (x2 : Int32) (x3 : Int32) (x4 : Int32) (H : Heap) (locs : List Loc) (ls : Array Slot), va_P D vwCl (w_X7 cI cB ad_t t_wills t_heirs t_kindOf t_worthOf t_thingOf t_changesOf t_changes t_heard t_heardHeir t_heardOne t_heardTwo t_heardMore t_pageLength t_page t_says t_dealt t_farOf t_endMany t_endMost t_endLeast t_endFew t_seedNow t_saved t_isKept t_keptWill t_keptChanges t_keptHeard t_keptWorth t_keptThing t_keptChangesOf t_keptHeir t_keptOne t_keptTwo t_keptMore t_h) H → va_D A (w_X7 cI cB ad_t t_wills t_heirs t_kindOf t_worthOf t_thingOf t_changesOf t_changes t_heard t_heardHeir t_heardOne t_heardTwo t_heardMore t_pageLength t_page t_says t_dealt t_farOf t_endMany t_endMost t_endLeast t_endFew t_seedNow t_saved t_isKept t_keptWill t_keptChanges t_keptHeard t_keptWorth t_keptThing t_keptChangesOf t_keptHeir t_keptOne t_keptTwo t_keptMore t_h) → va_S A s.heap H locs → lv_has ls 6 [(0, .ref (ad_t 0)), (1, .int x1), (2, .int x2), (3, .int x3), (4, .int x4)] → f_X7_worstBy_7 t_heirs t_worthOf  n x1 x2 x3 x4 = some rr → W p l e rm_X7_worstBy s m args below meth c H locs 0 0 (Zq D below args s A (w_X7 cI cB ad_t t_wills t_heirs t_kindOf t_worthOf t_thingOf t_changesOf t_changes t_heard t_heardHeir t_heardOne t_heardTwo t_heardMore t_pageLength t_page t_says t_dealt t_farOf t_endMany t_endMost t_endLeast t_endFew t_seedNow t_saved t_isKept t_keptWill t_keptChanges t_keptHeard t_keptWorth t_keptThing t_keptChangesOf t_keptHeir t_keptOne t_keptTwo t_keptMore t_h) (some (.int rr))) (F0 m 7 ls []) := by
  obtain ⟨hx, hb, hml, hown, hts, hrt, hlocks, hK, hA, hZ⟩ := id F
  intro n
  induction n with
  | zero =>
    intro x1 x2 x3 x4 H locs ls hP hD hS hl hf
    cases hf
  | succ n ih =>
    intro x1 x2 x3 x4 H locs ls hP hD hS hl hf
    refine lv_iload hx hb dX7_worstBy_7 (lv_at hl 4 rfl) ?_
    refine lv_aload_n hx hb dX7_worstBy_9 rfl (lv_at hl 0 rfl) ?_
    refine gf F hP in_X7_worstBy_X7 0 rfl rfl 1 (by decide) 1 rfl rfl dX7_worstBy_10 ?_
    refine lv_icmp_ge (tgt := 65) hx hb dX7_worstBy_13 (by decide) (fun c1 => ?_) (fun c1 => ?_)
    · replace hf := (if_pos c1).symm.trans hf
      refine lv_iload_n hx hb dX7_worstBy_65 rfl (lv_at hl 3 rfl) ?_
      replace hf : (some x3 : Option (Int32)) = some rr := hf
      cases hf
      exact ret_i F hP hS dX7_worstBy_66
    · replace hf := (if_neg c1).symm.trans hf
      refine lv_aload_n hx hb dX7_worstBy_16 rfl (lv_at hl 0 rfl) ?_
      refine lv_iload_n hx hb dX7_worstBy_17 rfl (lv_at hl 1 rfl) ?_
      refine lv_iload hx hb dX7_worstBy_18 (lv_at hl 4 rfl) ?_
      obtain ⟨v2, e3, hf⟩ := bnd hf
      refine cV F hP hD hS (k_X7_thingBy l ad_t t_wills t_heirs t_kindOf t_worthOf t_thingOf t_changesOf t_changes t_heard t_heardHeir t_heardOne t_heardTwo t_heardMore t_pageLength t_page t_says t_dealt t_farOf t_endMany t_endMost t_endLeast t_endFew t_seedNow t_saved t_isKept t_keptWill t_keptChanges t_keptHeard t_keptWorth t_keptThing t_keptChangesOf t_keptHeir t_keptOne t_keptTwo t_keptMore t_h x1 x4 e3) gX7_worstBy_X7_thingBy rfl ⟨rfl, rfl⟩ nd_X7_thingBy ⟨Nat.le_of_ble_eq_true rfl, Nat.le_of_ble_eq_true rfl⟩ 0 7 rfl rfl rfl hl.1 rfl (Nat.le_of_ble_eq_true rfl) dX7_worstBy_20 (pm0 (w_X7 cI cB ad_t t_wills t_heirs t_kindOf t_worthOf t_thingOf t_changesOf t_changes t_heard t_heardHeir t_heardOne t_heardTwo t_heardMore t_pageLength t_page t_says t_dealt t_farOf t_endMany t_endMost t_endLeast t_endFew t_seedNow t_saved t_isKept t_keptWill t_keptChanges t_keptHeard t_keptWorth t_keptThing t_keptChangesOf t_keptHeir t_keptOne t_keptTwo t_keptMore t_h)) (pm0 (w_X7 cI cB ad_t t_wills t_heirs t_kindOf t_worthOf t_thingOf t_changesOf t_changes t_heard t_heardHeir t_heardOne t_heardTwo t_heardMore t_pageLength t_page t_says t_dealt t_farOf t_endMany t_endMost t_endLeast t_endFew t_seedNow t_saved t_isKept t_keptWill t_keptChanges t_keptHeard t_keptWorth t_keptThing t_keptChangesOf t_keptHeir t_keptOne t_keptTwo t_keptMore t_h)) (fun H locs hP hD hS => ?_)
      refine lv_istore (lv' := [(5, .int v2), (0, .ref (ad_t 0)), (1, .int x1), (2, .int x2), (3, .int x3), (4, .int x4)]) hx hb dX7_worstBy_23 hl (by decide) rfl (fun ls hl => ?_)
      refine lv_iload_n hx hb dX7_worstBy_25 rfl (lv_at hl 3 rfl) ?_
      refine lv_iload hx hb dX7_worstBy_26 (lv_at hl 0 rfl) ?_
      obtain ⟨v4, e5, hf⟩ := bnd hf
      refine cS F hP hD hS (k_X7_isIn l  x2 v2 e5) gX7_worstBy_X7_isIn rfl ⟨rfl, rfl⟩ nd_X7_isIn ⟨Nat.le_of_ble_eq_true rfl, Nat.le_of_ble_eq_true rfl⟩ rfl hl.1 rfl (Nat.le_of_ble_eq_true rfl) dX7_worstBy_28 (pmE (w_X7 cI cB ad_t t_wills t_heirs t_kindOf t_worthOf t_thingOf t_changesOf t_changes t_heard t_heardHeir t_heardOne t_heardTwo t_heardMore t_pageLength t_page t_says t_dealt t_farOf t_endMany t_endMost t_endLeast t_endFew t_seedNow t_saved t_isKept t_keptWill t_keptChanges t_keptHeard t_keptWorth t_keptThing t_keptChangesOf t_keptHeir t_keptOne t_keptTwo t_keptMore t_h)) (pmE (w_X7 cI cB ad_t t_wills t_heirs t_kindOf t_worthOf t_thingOf t_changesOf t_changes t_heard t_heardHeir t_heardOne t_heardTwo t_heardMore t_pageLength t_page t_says t_dealt t_farOf t_endMany t_endMost t_endLeast t_endFew t_seedNow t_saved t_isKept t_keptWill t_keptChanges t_keptHeard t_keptWorth t_keptThing t_keptChangesOf t_keptHeir t_keptOne t_keptTwo t_keptMore t_h)) (fun H locs hP hD hS => ?_)
      refine lv_if_eq (tgt := 37) hx hb dX7_worstBy_31 (by decide) (fun c6 => ?_) (fun c6 => ?_)
      · replace hf := (if_pos c6).symm.trans hf
        refine lv_iload_n hx hb dX7_worstBy_37 rfl (lv_at hl 3 rfl) ?_
        refine lv_iconst (v := 1) hx hb dX7_worstBy_38 (by decide) ?_
        refine lv_iload hx hb dX7_worstBy_39 (lv_at hl 0 rfl) ?_
        refine lv_ishl hx hb dX7_worstBy_41 ?_
        refine lv_ior hx hb dX7_worstBy_42 ?_
        refine lv_istore_n (lv' := [(2, .int (x2 ||| ((1 : Int32) <<< (v2 &&& 31)))), (5, .int v2), (0, .ref (ad_t 0)), (1, .int x1), (3, .int x3), (4, .int x4)]) hx hb dX7_worstBy_43 rfl hl (by decide) rfl (fun ls hl => ?_)
        refine lv_iload_n hx hb dX7_worstBy_44 rfl (lv_at hl 4 rfl) ?_
        refine lv_aload_n hx hb dX7_worstBy_45 rfl (lv_at hl 2 rfl) ?_
        refine gf F hP in_X7_worstBy_X7 0 rfl rfl 3 (by decide) 3 rfl rfl dX7_worstBy_46 ?_
        refine lv_iconst (v := 4) hx hb dX7_worstBy_49 (by decide) ?_
        refine lv_iload hx hb dX7_worstBy_50 (lv_at hl 5 rfl) ?_
        refine lv_imul hx hb dX7_worstBy_52 ?_
        refine lv_iload hx hb dX7_worstBy_53 (lv_at hl 1 rfl) ?_
        refine lv_iadd hx hb dX7_worstBy_55 ?_
        obtain ⟨v7, ev7, hf⟩ := bnd hf
        refine ald F hP 2 rfl ev7 dX7_worstBy_56 ?_
        refine lv_iadd hx hb dX7_worstBy_57 ?_
        refine lv_istore_n (lv' := [(3, .int (x3 + v7)), (2, .int (x2 ||| ((1 : Int32) <<< (v2 &&& 31)))), (5, .int v2), (0, .ref (ad_t 0)), (1, .int x1), (4, .int x4)]) hx hb dX7_worstBy_58 rfl hl (by decide) rfl (fun ls hl => ?_)
        refine lv_iinc (v := (x4 + 1)) (lv' := [(4, .int (x4 + 1)), (3, .int (x3 + v7)), (2, .int (x2 ||| ((1 : Int32) <<< (v2 &&& 31)))), (5, .int v2), (0, .ref (ad_t 0)), (1, .int x1)]) hx hb dX7_worstBy_59 hl (k := 5) rfl rfl (by decide) rfl (fun ls hl => ?_)
        refine lv_goto (tgt := 7) hx hb dX7_worstBy_62 (by decide) ?_
        exact ih x1 (x2 ||| ((1 : Int32) <<< (v2 &&& 31))) (x3 + v7) (x4 + 1) H locs ls hP hD hS (lv_sub hl [4, 5, 2, 1, 0] rfl) hf
      · replace hf := (if_neg c6).symm.trans hf
        refine lv_ldc (v := 268435456) hx hb hown (hts _ (List.mem_of_getElem? (i := 2) rfl)) dX7_worstBy_34 ?_
        replace hf : (some 268435456 : Option (Int32)) = some rr := hf
        cases hf
        exact ret_i F hP hS dX7_worstBy_36

set_option maxHeartbeats 4000000 in
set_option maxRecDepth 100000 in
theorem k_X7_worstBy (l : Launch) {D : va_G} {cI cB : ClassId} {kK kV : Nat → Nat} (ad_t : Nat → Nat) (t_wills : Int32) (t_heirs : Int32) (t_kindOf : Nat → Int32) (t_worthOf : Nat → Int32) (t_thingOf : Nat → Int32) (t_changesOf : Nat → Int32) (t_changes : Int32) (t_heard : Int32) (t_heardHeir : Nat → Int32) (t_heardOne : Nat → Int32) (t_heardTwo : Nat → Int32) (t_heardMore : Nat → Int32) (t_pageLength : Int32) (t_page : Nat → Int32) (t_says : Nat → Int32) (t_dealt : Nat → Int32) (t_farOf : Nat → Int32) (t_endMany : Int32) (t_endMost : Int32) (t_endLeast : Int32) (t_endFew : Int32) (t_seedNow : Int64) (t_saved : Nat → Int32) (t_isKept : Int32) (t_keptWill : Int32) (t_keptChanges : Int32) (t_keptHeard : Int32) (t_keptWorth : Nat → Int32) (t_keptThing : Nat → Int32) (t_keptChangesOf : Nat → Int32) (t_keptHeir : Nat → Int32) (t_keptOne : Nat → Int32) (t_keptTwo : Nat → Int32) (t_keptMore : Nat → Int32) (t_h : Int64) (x1 : Int32) {rr : Int32}  (hf : f_X7_worstBy t_heirs t_worthOf x1 = some rr) : Ct l yX7_worstBy wsX7_worstBy rm_X7_worstBy D cI cB kK kV [.ref (ad_t 0), .int x1] (w_X7 cI cB ad_t t_wills t_heirs t_kindOf t_worthOf t_thingOf t_changesOf t_changes t_heard t_heardHeir t_heardOne t_heardTwo t_heardMore t_pageLength t_page t_says t_dealt t_farOf t_endMany t_endMost t_endLeast t_endFew t_seedNow t_saved t_isKept t_keptWill t_keptChanges t_keptHeard t_keptWorth t_keptThing t_keptChangesOf t_keptHeir t_keptOne t_keptTwo t_keptMore t_h) (w_X7 cI cB ad_t t_wills t_heirs t_kindOf t_worthOf t_thingOf t_changesOf t_changes t_heard t_heardHeir t_heardOne t_heardTwo t_heardMore t_pageLength t_page t_says t_dealt t_farOf t_endMany t_endMost t_endLeast t_endFew t_seedNow t_saved t_isKept t_keptWill t_keptChanges t_keptHeard t_keptWorth t_keptThing t_keptChangesOf t_keptHeir t_keptOne t_keptTwo t_keptMore t_h) (some (.int rr)) := by
  refine Ct.of (cc := cX7_worstBy) (maxL := 6) (ret := (some .int)) (by decide) rfl (Nat.le_of_ble_eq_true rfl) rfl ?_
  intro p e s m below meth c A ls F hP hD hS hl
  have hl : lv_has ls 6 [(0, .ref (ad_t 0)), (1, .int x1)] := hl
  obtain ⟨hx, hb, hml, hown, hts, hrt, hlocks, hK, hA, hZ⟩ := id F
  obtain ⟨H, hH⟩ : ∃ H, H = s.heap := ⟨_, rfl⟩
  obtain ⟨locs, hLo⟩ : ∃ q : List Loc, q = [] := ⟨_, rfl⟩
  refine (?_ : W p l e rm_X7_worstBy s m _ below meth c s.heap [] 0 0 _ _)
  rw [← hH, ← hLo]
  rw [← hH] at hP
  have hS : va_S A s.heap H locs := by rw [hH, hLo]; exact hS
  refine lv_iconst (v := 0) hx hb dX7_worstBy_0 (by decide) ?_
  refine lv_istore_n (lv' := [(2, .int 0), (0, .ref (ad_t 0)), (1, .int x1)]) hx hb dX7_worstBy_1 rfl hl (by decide) rfl (fun ls hl => ?_)
  refine lv_iconst (v := 0) hx hb dX7_worstBy_2 (by decide) ?_
  refine lv_istore_n (lv' := [(3, .int 0), (2, .int 0), (0, .ref (ad_t 0)), (1, .int x1)]) hx hb dX7_worstBy_3 rfl hl (by decide) rfl (fun ls hl => ?_)
  refine lv_iconst (v := 0) hx hb dX7_worstBy_4 (by decide) ?_
  refine lv_istore (lv' := [(4, .int 0), (3, .int 0), (2, .int 0), (0, .ref (ad_t 0)), (1, .int x1)]) hx hb dX7_worstBy_5 hl (by decide) rfl (fun ls hl => ?_)
  exact b_X7_worstBy_7 F 300 x1 0 0 0 H locs ls hP hD hS (lv_sub hl [3, 4, 2, 1, 0] rfl) hf

/-! X7_worstNow -/
def rm_X7_worstNow : Room := { frames := 2, cells := 0, slots := 0, locals := 47 }
theorem in_X7_worstNow_X7 : ∀ w ∈ u_ws RX7 TX7 35, w ∈ wsX7_worstNow := fun _ h => List.mem_cons_of_mem _ (List.mem_append_right _ (h))
theorem nd_X7_worstNow : yX7_worstNow.cls = RX7 ∧ yX7_worstNow.cls ≠ "java/lang/invoke/MethodHandle" ∧ yX7_worstNow.cls ≠ "java/lang/invoke/VarHandle" ∧ (parseMethodDescriptor yX7_worstNow.desc).map (fun d => d.parameters.length) = some 1 := by decide +kernel
def f_X7_worstNow_54 (t_heirs : Int32) (t_worthOf : Nat → Int32) (back_8 : Int32 → Int32 → Int32 → Int32 → Option (Int32)) (x1 : Int32) (x2 : Int32) (x4 : Int32) (k0 : Int32) : Option (Int32) := back_8 x1 x2 k0 (x4 + 1)
def f_X7_worstNow_41 (t_heirs : Int32) (t_worthOf : Nat → Int32) (back_8 : Int32 → Int32 → Int32 → Int32 → Option (Int32)) (x1 : Int32) (x3 : Int32) (x4 : Int32) (x5 : Int32) (k0 : Int32) : Option (Int32) := (if x3 ≤ x5 then f_X7_worstNow_54 t_heirs t_worthOf back_8 x1 k0 x4 x3 else f_X7_worstNow_54 t_heirs t_worthOf back_8 x1 k0 x4 x5)
def f_X7_worstNow_8 (t_heirs : Int32) (t_worthOf : Nat → Int32)  : Nat → Int32 → Int32 → Int32 → Int32 → Option (Int32)
  | 0, _, _, _, _ => none
  | n + 1, x1, x2, x3, x4 => (if ((1 : Int32) <<< ((2 * t_heirs) &&& 31)) ≤ x4 then (if x1 = 0 then some x3 else (f_X7_isHeir t_heirs (x1 - 10)).bind (fun v3 => (if v3 = 0 then some (-1) else (f_X7_thingBy t_heirs x2 (x1 - 10)).bind (fun v6 => some v6)))) else (f_X7_worstBy t_heirs t_worthOf x4).bind (fun v8 => (if x3 ≤ v8 then f_X7_worstNow_41 t_heirs t_worthOf (f_X7_worstNow_8 t_heirs t_worthOf  n) x1 x3 x4 v8 x2 else f_X7_worstNow_41 t_heirs t_worthOf (f_X7_worstNow_8 t_heirs t_worthOf  n) x1 x3 x4 v8 x4)))
def f_X7_worstNow (t_heirs : Int32) (t_worthOf : Nat → Int32) (x1 : Int32) : Option (Int32) := f_X7_worstNow_8 t_heirs t_worthOf 300 x1 (-1) 268435456 0
set_option maxHeartbeats 4000000 in
set_option maxRecDepth 100000 in
theorem b_X7_worstNow_54 {p : Program} {l : Launch} {e : Env} {s : State} {m : MethodId} {args : Array Value} {below : List Frame} {meth : Method} {c : Code} {D : va_G} {cI cB : ClassId} {kK kV : Nat → Nat} {A : Nat → Prop} (F : Fx p m c s meth args cX7_worstNow 6 RX7 wsX7_worstNow (some .int) D cI cB kK kV A) {ad_t : Nat → Nat} {t_wills : Int32} {t_heirs : Int32} {t_kindOf : Nat → Int32} {t_worthOf : Nat → Int32} {t_thingOf : Nat → Int32} {t_changesOf : Nat → Int32} {t_changes : Int32} {t_heard : Int32} {t_heardHeir : Nat → Int32} {t_heardOne : Nat → Int32} {t_heardTwo : Nat → Int32} {t_heardMore : Nat → Int32} {t_pageLength : Int32} {t_page : Nat → Int32} {t_says : Nat → Int32} {t_dealt : Nat → Int32} {t_farOf : Nat → Int32} {t_endMany : Int32} {t_endMost : Int32} {t_endLeast : Int32} {t_endFew : Int32} {t_seedNow : Int64} {t_saved : Nat → Int32} {t_isKept : Int32} {t_keptWill : Int32} {t_keptChanges : Int32} {t_keptHeard : Int32} {t_keptWorth : Nat → Int32} {t_keptThing : Nat → Int32} {t_keptChangesOf : Nat → Int32} {t_keptHeir : Nat → Int32} {t_keptOne : Nat → Int32} {t_keptTwo : Nat → Int32} {t_keptMore : Nat → Int32} {t_h : Int64} {rr : Int32}  (back_8 : Int32 → Int32 → Int32 → Int32 → Option (Int32)) (hb_8 : ∀ (x1 : Int32) (x2 : Int32) (x3 : Int32) (x4 : Int32) (H : Heap) (locs : List Loc) (ls : Array Slot), va_P D vwCl (w_X7 cI cB ad_t t_wills t_heirs t_kindOf t_worthOf t_thingOf t_changesOf t_changes t_heard t_heardHeir t_heardOne t_heardTwo t_heardMore t_pageLength t_page t_says t_dealt t_farOf t_endMany t_endMost t_endLeast t_endFew t_seedNow t_saved t_isKept t_keptWill t_keptChanges t_keptHeard t_keptWorth t_keptThing t_keptChangesOf t_keptHeir t_keptOne t_keptTwo t_keptMore t_h) H → va_D A (w_X7 cI cB ad_t t_wills t_heirs t_kindOf t_worthOf t_thingOf t_changesOf t_changes t_heard t_heardHeir t_heardOne t_heardTwo t_heardMore t_pageLength t_page t_says t_dealt t_farOf t_endMany t_endMost t_endLeast t_endFew t_seedNow t_saved t_isKept t_keptWill t_keptChanges t_keptHeard t_keptWorth t_keptThing t_keptChangesOf t_keptHeir t_keptOne t_keptTwo t_keptMore t_h) → va_S A s.heap H locs → lv_has ls 6 [(0, .ref (ad_t 0)), (1, .int x1), (2, .int x2), (3, .int x3), (4, .int x4)] → back_8 x1 x2 x3 x4 = some rr → W p l e rm_X7_worstNow s m args below meth c H locs 0 0 (Zq D below args s A (w_X7 cI cB ad_t t_wills t_heirs t_kindOf t_worthOf t_thingOf t_changesOf t_changes t_heard t_heardHeir t_heardOne t_heardTwo t_heardMore t_pageLength t_page t_says t_dealt t_farOf t_endMany t_endMost t_endLeast t_endFew t_seedNow t_saved t_isKept t_keptWill t_keptChanges t_keptHeard t_keptWorth t_keptThing t_keptChangesOf t_keptHeir t_keptOne t_keptTwo t_keptMore t_h) (some (.int rr))) (F0 m 8 ls [])) : ∀ (x1 : Int32) (x2 : Int32) (x4 : Int32) (k0 : Int32) (H : Heap) (locs : List Loc) (ls : Array Slot), va_P D vwCl (w_X7 cI cB ad_t t_wills t_heirs t_kindOf t_worthOf t_thingOf t_changesOf t_changes t_heard t_heardHeir t_heardOne t_heardTwo t_heardMore t_pageLength t_page t_says t_dealt t_farOf t_endMany t_endMost t_endLeast t_endFew t_seedNow t_saved t_isKept t_keptWill t_keptChanges t_keptHeard t_keptWorth t_keptThing t_keptChangesOf t_keptHeir t_keptOne t_keptTwo t_keptMore t_h) H → va_D A (w_X7 cI cB ad_t t_wills t_heirs t_kindOf t_worthOf t_thingOf t_changesOf t_changes t_heard t_heardHeir t_heardOne t_heardTwo t_heardMore t_pageLength t_page t_says t_dealt t_farOf t_endMany t_endMost t_endLeast t_endFew t_seedNow t_saved t_isKept t_keptWill t_keptChanges t_keptHeard t_keptWorth t_keptThing t_keptChangesOf t_keptHeir t_keptOne t_keptTwo t_keptMore t_h) → va_S A s.heap H locs → lv_has ls 6 [(0, .ref (ad_t 0)), (1, .int x1), (2, .int x2), (4, .int x4)] → f_X7_worstNow_54 t_heirs t_worthOf back_8 x1 x2 x4 k0 = some rr → W p l e rm_X7_worstNow s m args below meth c H locs 0 0 (Zq D below args s A (w_X7 cI cB ad_t t_wills t_heirs t_kindOf t_worthOf t_thingOf t_changesOf t_changes t_heard t_heardHeir t_heardOne t_heardTwo t_heardMore t_pageLength t_page t_says t_dealt t_farOf t_endMany t_endMost t_endLeast t_endFew t_seedNow t_saved t_isKept t_keptWill t_keptChanges t_keptHeard t_keptWorth t_keptThing t_keptChangesOf t_keptHeir t_keptOne t_keptTwo t_keptMore t_h) (some (.int rr))) (F0 m 54 ls [.int k0]) := by
  obtain ⟨hx, hb, hml, hown, hts, hrt, hlocks, hK, hA, hZ⟩ := id F
  intro x1 x2 x4 k0 H locs ls hP hD hS hl hf
  refine lv_istore_n (lv' := [(3, .int k0), (0, .ref (ad_t 0)), (1, .int x1), (2, .int x2), (4, .int x4)]) hx hb dX7_worstNow_54 rfl hl (by decide) rfl (fun ls hl => ?_)
  refine lv_iinc (v := (x4 + 1)) (lv' := [(4, .int (x4 + 1)), (3, .int k0), (0, .ref (ad_t 0)), (1, .int x1), (2, .int x2)]) hx hb dX7_worstNow_55 hl (k := 4) rfl rfl (by decide) rfl (fun ls hl => ?_)
  refine lv_goto (tgt := 8) hx hb dX7_worstNow_58 (by decide) ?_
  exact hb_8 x1 x2 k0 (x4 + 1) H locs ls hP hD hS (lv_sub hl [2, 3, 4, 1, 0] rfl) hf

set_option maxHeartbeats 4000000 in
set_option maxRecDepth 100000 in
theorem b_X7_worstNow_41 {p : Program} {l : Launch} {e : Env} {s : State} {m : MethodId} {args : Array Value} {below : List Frame} {meth : Method} {c : Code} {D : va_G} {cI cB : ClassId} {kK kV : Nat → Nat} {A : Nat → Prop} (F : Fx p m c s meth args cX7_worstNow 6 RX7 wsX7_worstNow (some .int) D cI cB kK kV A) {ad_t : Nat → Nat} {t_wills : Int32} {t_heirs : Int32} {t_kindOf : Nat → Int32} {t_worthOf : Nat → Int32} {t_thingOf : Nat → Int32} {t_changesOf : Nat → Int32} {t_changes : Int32} {t_heard : Int32} {t_heardHeir : Nat → Int32} {t_heardOne : Nat → Int32} {t_heardTwo : Nat → Int32} {t_heardMore : Nat → Int32} {t_pageLength : Int32} {t_page : Nat → Int32} {t_says : Nat → Int32} {t_dealt : Nat → Int32} {t_farOf : Nat → Int32} {t_endMany : Int32} {t_endMost : Int32} {t_endLeast : Int32} {t_endFew : Int32} {t_seedNow : Int64} {t_saved : Nat → Int32} {t_isKept : Int32} {t_keptWill : Int32} {t_keptChanges : Int32} {t_keptHeard : Int32} {t_keptWorth : Nat → Int32} {t_keptThing : Nat → Int32} {t_keptChangesOf : Nat → Int32} {t_keptHeir : Nat → Int32} {t_keptOne : Nat → Int32} {t_keptTwo : Nat → Int32} {t_keptMore : Nat → Int32} {t_h : Int64} {rr : Int32}  (back_8 : Int32 → Int32 → Int32 → Int32 → Option (Int32)) (hb_8 : ∀ (x1 : Int32) (x2 : Int32) (x3 : Int32) (x4 : Int32) (H : Heap) (locs : List Loc) (ls : Array Slot), va_P D vwCl (w_X7 cI cB ad_t t_wills t_heirs t_kindOf t_worthOf t_thingOf t_changesOf t_changes t_heard t_heardHeir t_heardOne t_heardTwo t_heardMore t_pageLength t_page t_says t_dealt t_farOf t_endMany t_endMost t_endLeast t_endFew t_seedNow t_saved t_isKept t_keptWill t_keptChanges t_keptHeard t_keptWorth t_keptThing t_keptChangesOf t_keptHeir t_keptOne t_keptTwo t_keptMore t_h) H → va_D A (w_X7 cI cB ad_t t_wills t_heirs t_kindOf t_worthOf t_thingOf t_changesOf t_changes t_heard t_heardHeir t_heardOne t_heardTwo t_heardMore t_pageLength t_page t_says t_dealt t_farOf t_endMany t_endMost t_endLeast t_endFew t_seedNow t_saved t_isKept t_keptWill t_keptChanges t_keptHeard t_keptWorth t_keptThing t_keptChangesOf t_keptHeir t_keptOne t_keptTwo t_keptMore t_h) → va_S A s.heap H locs → lv_has ls 6 [(0, .ref (ad_t 0)), (1, .int x1), (2, .int x2), (3, .int x3), (4, .int x4)] → back_8 x1 x2 x3 x4 = some rr → W p l e rm_X7_worstNow s m args below meth c H locs 0 0 (Zq D below args s A (w_X7 cI cB ad_t t_wills t_heirs t_kindOf t_worthOf t_thingOf t_changesOf t_changes t_heard t_heardHeir t_heardOne t_heardTwo t_heardMore t_pageLength t_page t_says t_dealt t_farOf t_endMany t_endMost t_endLeast t_endFew t_seedNow t_saved t_isKept t_keptWill t_keptChanges t_keptHeard t_keptWorth t_keptThing t_keptChangesOf t_keptHeir t_keptOne t_keptTwo t_keptMore t_h) (some (.int rr))) (F0 m 8 ls [])) : ∀ (x1 : Int32) (x3 : Int32) (x4 : Int32) (x5 : Int32) (k0 : Int32) (H : Heap) (locs : List Loc) (ls : Array Slot), va_P D vwCl (w_X7 cI cB ad_t t_wills t_heirs t_kindOf t_worthOf t_thingOf t_changesOf t_changes t_heard t_heardHeir t_heardOne t_heardTwo t_heardMore t_pageLength t_page t_says t_dealt t_farOf t_endMany t_endMost t_endLeast t_endFew t_seedNow t_saved t_isKept t_keptWill t_keptChanges t_keptHeard t_keptWorth t_keptThing t_keptChangesOf t_keptHeir t_keptOne t_keptTwo t_keptMore t_h) H → va_D A (w_X7 cI cB ad_t t_wills t_heirs t_kindOf t_worthOf t_thingOf t_changesOf t_changes t_heard t_heardHeir t_heardOne t_heardTwo t_heardMore t_pageLength t_page t_says t_dealt t_farOf t_endMany t_endMost t_endLeast t_endFew t_seedNow t_saved t_isKept t_keptWill t_keptChanges t_keptHeard t_keptWorth t_keptThing t_keptChangesOf t_keptHeir t_keptOne t_keptTwo t_keptMore t_h) → va_S A s.heap H locs → lv_has ls 6 [(0, .ref (ad_t 0)), (1, .int x1), (3, .int x3), (4, .int x4), (5, .int x5)] → f_X7_worstNow_41 t_heirs t_worthOf back_8 x1 x3 x4 x5 k0 = some rr → W p l e rm_X7_worstNow s m args below meth c H locs 0 0 (Zq D below args s A (w_X7 cI cB ad_t t_wills t_heirs t_kindOf t_worthOf t_thingOf t_changesOf t_changes t_heard t_heardHeir t_heardOne t_heardTwo t_heardMore t_pageLength t_page t_says t_dealt t_farOf t_endMany t_endMost t_endLeast t_endFew t_seedNow t_saved t_isKept t_keptWill t_keptChanges t_keptHeard t_keptWorth t_keptThing t_keptChangesOf t_keptHeir t_keptOne t_keptTwo t_keptMore t_h) (some (.int rr))) (F0 m 41 ls [.int k0]) := by
  obtain ⟨hx, hb, hml, hown, hts, hrt, hlocks, hK, hA, hZ⟩ := id F
  intro x1 x3 x4 x5 k0 H locs ls hP hD hS hl hf
  refine lv_istore_n (lv' := [(2, .int k0), (0, .ref (ad_t 0)), (1, .int x1), (3, .int x3), (4, .int x4), (5, .int x5)]) hx hb dX7_worstNow_41 rfl hl (by decide) rfl (fun ls hl => ?_)
  refine lv_iload hx hb dX7_worstNow_42 (lv_at hl 5 rfl) ?_
  refine lv_iload_n hx hb dX7_worstNow_44 rfl (lv_at hl 3 rfl) ?_
  refine lv_icmp_ge (tgt := 53) hx hb dX7_worstNow_45 (by decide) (fun c1 => ?_) (fun c1 => ?_)
  · replace hf := (if_pos c1).symm.trans hf
    refine lv_iload_n hx hb dX7_worstNow_53 rfl (lv_at hl 3 rfl) ?_
    exact b_X7_worstNow_54 F back_8 hb_8 x1 k0 x4 x3 H locs ls hP hD hS (lv_sub hl [1, 2, 0, 4] rfl) hf
  · replace hf := (if_neg c1).symm.trans hf
    refine lv_iload hx hb dX7_worstNow_48 (lv_at hl 5 rfl) ?_
    refine lv_goto (tgt := 54) hx hb dX7_worstNow_50 (by decide) ?_
    exact b_X7_worstNow_54 F back_8 hb_8 x1 k0 x4 x5 H locs ls hP hD hS (lv_sub hl [1, 2, 0, 4] rfl) hf

set_option maxHeartbeats 4000000 in
set_option maxRecDepth 100000 in
theorem b_X7_worstNow_8 {p : Program} {l : Launch} {e : Env} {s : State} {m : MethodId} {args : Array Value} {below : List Frame} {meth : Method} {c : Code} {D : va_G} {cI cB : ClassId} {kK kV : Nat → Nat} {A : Nat → Prop} (F : Fx p m c s meth args cX7_worstNow 6 RX7 wsX7_worstNow (some .int) D cI cB kK kV A) {ad_t : Nat → Nat} {t_wills : Int32} {t_heirs : Int32} {t_kindOf : Nat → Int32} {t_worthOf : Nat → Int32} {t_thingOf : Nat → Int32} {t_changesOf : Nat → Int32} {t_changes : Int32} {t_heard : Int32} {t_heardHeir : Nat → Int32} {t_heardOne : Nat → Int32} {t_heardTwo : Nat → Int32} {t_heardMore : Nat → Int32} {t_pageLength : Int32} {t_page : Nat → Int32} {t_says : Nat → Int32} {t_dealt : Nat → Int32} {t_farOf : Nat → Int32} {t_endMany : Int32} {t_endMost : Int32} {t_endLeast : Int32} {t_endFew : Int32} {t_seedNow : Int64} {t_saved : Nat → Int32} {t_isKept : Int32} {t_keptWill : Int32} {t_keptChanges : Int32} {t_keptHeard : Int32} {t_keptWorth : Nat → Int32} {t_keptThing : Nat → Int32} {t_keptChangesOf : Nat → Int32} {t_keptHeir : Nat → Int32} {t_keptOne : Nat → Int32} {t_keptTwo : Nat → Int32} {t_keptMore : Nat → Int32} {t_h : Int64} {rr : Int32}  : ∀ (n : Nat), ∀ (x1 : Int32) (x2 : Int32) (x3 : Int32) (x4 : Int32) (H : Heap) (locs : List Loc) (ls : Array Slot), va_P D vwCl (w_X7 cI cB ad_t t_wills t_heirs t_kindOf t_worthOf t_thingOf t_changesOf t_changes t_heard t_heardHeir t_heardOne t_heardTwo t_heardMore t_pageLength t_page t_says t_dealt t_farOf t_endMany t_endMost t_endLeast t_endFew t_seedNow t_saved t_isKept t_keptWill t_keptChanges t_keptHeard t_keptWorth t_keptThing t_keptChangesOf t_keptHeir t_keptOne t_keptTwo t_keptMore t_h) H → va_D A (w_X7 cI cB ad_t t_wills t_heirs t_kindOf t_worthOf t_thingOf t_changesOf t_changes t_heard t_heardHeir t_heardOne t_heardTwo t_heardMore t_pageLength t_page t_says t_dealt t_farOf t_endMany t_endMost t_endLeast t_endFew t_seedNow t_saved t_isKept t_keptWill t_keptChanges t_keptHeard t_keptWorth t_keptThing t_keptChangesOf t_keptHeir t_keptOne t_keptTwo t_keptMore t_h) → va_S A s.heap H locs → lv_has ls 6 [(0, .ref (ad_t 0)), (1, .int x1), (2, .int x2), (3, .int x3), (4, .int x4)] → f_X7_worstNow_8 t_heirs t_worthOf  n x1 x2 x3 x4 = some rr → W p l e rm_X7_worstNow s m args below meth c H locs 0 0 (Zq D below args s A (w_X7 cI cB ad_t t_wills t_heirs t_kindOf t_worthOf t_thingOf t_changesOf t_changes t_heard t_heardHeir t_heardOne t_heardTwo t_heardMore t_pageLength t_page t_says t_dealt t_farOf t_endMany t_endMost t_endLeast t_endFew t_seedNow t_saved t_isKept t_keptWill t_keptChanges t_keptHeard t_keptWorth t_keptThing t_keptChangesOf t_keptHeir t_keptOne t_keptTwo t_keptMore t_h) (some (.int rr))) (F0 m 8 ls []) := by
  obtain ⟨hx, hb, hml, hown, hts, hrt, hlocks, hK, hA, hZ⟩ := id F
  intro n
  induction n with
  | zero =>
    intro x1 x2 x3 x4 H locs ls hP hD hS hl hf
    cases hf
  | succ n ih =>
    intro x1 x2 x3 x4 H locs ls hP hD hS hl hf
    refine lv_iload hx hb dX7_worstNow_8 (lv_at hl 4 rfl) ?_
    refine lv_iconst (v := 1) hx hb dX7_worstNow_10 (by decide) ?_
    refine lv_iconst (v := 2) hx hb dX7_worstNow_11 (by decide) ?_
    refine lv_aload_n hx hb dX7_worstNow_12 rfl (lv_at hl 0 rfl) ?_
    refine gf F hP in_X7_worstNow_X7 0 rfl rfl 1 (by decide) 2 rfl rfl dX7_worstNow_13 ?_
    refine lv_imul hx hb dX7_worstNow_16 ?_
    refine lv_ishl hx hb dX7_worstNow_17 ?_
    refine lv_icmp_ge (tgt := 61) hx hb dX7_worstNow_18 (by decide) (fun c1 => ?_) (fun c1 => ?_)
    · replace hf := (if_pos c1).symm.trans hf
      refine lv_iload_n hx hb dX7_worstNow_61 rfl (lv_at hl 1 rfl) ?_
      refine lv_if_ne (tgt := 69) hx hb dX7_worstNow_62 (by decide) (fun c2 => ?_) (fun c2 => ?_)
      · replace hf := (if_neg c2).symm.trans hf
        refine lv_aload_n hx hb dX7_worstNow_69 rfl (lv_at hl 0 rfl) ?_
        refine lv_iload_n hx hb dX7_worstNow_70 rfl (lv_at hl 1 rfl) ?_
        refine lv_bipush (v := 10) hx hb dX7_worstNow_71 (by decide) ?_
        refine lv_isub hx hb dX7_worstNow_73 ?_
        obtain ⟨v3, e4, hf⟩ := bnd hf
        refine cV F hP hD hS (k_X7_isHeir l ad_t t_wills t_heirs t_kindOf t_worthOf t_thingOf t_changesOf t_changes t_heard t_heardHeir t_heardOne t_heardTwo t_heardMore t_pageLength t_page t_says t_dealt t_farOf t_endMany t_endMost t_endLeast t_endFew t_seedNow t_saved t_isKept t_keptWill t_keptChanges t_keptHeard t_keptWorth t_keptThing t_keptChangesOf t_keptHeir t_keptOne t_keptTwo t_keptMore t_h (x1 - 10) e4) gX7_worstNow_X7_isHeir rfl ⟨rfl, rfl⟩ nd_X7_isHeir ⟨Nat.le_of_ble_eq_true rfl, Nat.le_of_ble_eq_true rfl⟩ 0 7 rfl rfl rfl hl.1 rfl (Nat.le_of_ble_eq_true rfl) dX7_worstNow_74 (pm0 (w_X7 cI cB ad_t t_wills t_heirs t_kindOf t_worthOf t_thingOf t_changesOf t_changes t_heard t_heardHeir t_heardOne t_heardTwo t_heardMore t_pageLength t_page t_says t_dealt t_farOf t_endMany t_endMost t_endLeast t_endFew t_seedNow t_saved t_isKept t_keptWill t_keptChanges t_keptHeard t_keptWorth t_keptThing t_keptChangesOf t_keptHeir t_keptOne t_keptTwo t_keptMore t_h)) (pm0 (w_X7 cI cB ad_t t_wills t_heirs t_kindOf t_worthOf t_thingOf t_changesOf t_changes t_heard t_heardHeir t_heardOne t_heardTwo t_heardMore t_pageLength t_page t_says t_dealt t_farOf t_endMany t_endMost t_endLeast t_endFew t_seedNow t_saved t_isKept t_keptWill t_keptChanges t_keptHeard t_keptWorth t_keptThing t_keptChangesOf t_keptHeir t_keptOne t_keptTwo t_keptMore t_h)) (fun H locs hP hD hS => ?_)
        refine lv_if_eq (tgt := 92) hx hb dX7_worstNow_77 (by decide) (fun c5 => ?_) (fun c5 => ?_)
        · replace hf := (if_pos c5).symm.trans hf
          refine lv_iconst (v := (-1)) hx hb dX7_worstNow_92 (by decide) ?_
          replace hf : (some (-1) : Option (Int32)) = some rr := hf
          cases hf
          exact ret_i F hP hS dX7_worstNow_93
        · replace hf := (if_neg c5).symm.trans hf
          refine lv_aload_n hx hb dX7_worstNow_80 rfl (lv_at hl 0 rfl) ?_
          refine lv_iload_n hx hb dX7_worstNow_81 rfl (lv_at hl 2 rfl) ?_
          refine lv_iload_n hx hb dX7_worstNow_82 rfl (lv_at hl 1 rfl) ?_
          refine lv_bipush (v := 10) hx hb dX7_worstNow_83 (by decide) ?_
          refine lv_isub hx hb dX7_worstNow_85 ?_
          obtain ⟨v6, e7, hf⟩ := bnd hf
          refine cV F hP hD hS (k_X7_thingBy l ad_t t_wills t_heirs t_kindOf t_worthOf t_thingOf t_changesOf t_changes t_heard t_heardHeir t_heardOne t_heardTwo t_heardMore t_pageLength t_page t_says t_dealt t_farOf t_endMany t_endMost t_endLeast t_endFew t_seedNow t_saved t_isKept t_keptWill t_keptChanges t_keptHeard t_keptWorth t_keptThing t_keptChangesOf t_keptHeir t_keptOne t_keptTwo t_keptMore t_h x2 (x1 - 10) e7) gX7_worstNow_X7_thingBy rfl ⟨rfl, rfl⟩ nd_X7_thingBy ⟨Nat.le_of_ble_eq_true rfl, Nat.le_of_ble_eq_true rfl⟩ 0 7 rfl rfl rfl hl.1 rfl (Nat.le_of_ble_eq_true rfl) dX7_worstNow_86 (pm0 (w_X7 cI cB ad_t t_wills t_heirs t_kindOf t_worthOf t_thingOf t_changesOf t_changes t_heard t_heardHeir t_heardOne t_heardTwo t_heardMore t_pageLength t_page t_says t_dealt t_farOf t_endMany t_endMost t_endLeast t_endFew t_seedNow t_saved t_isKept t_keptWill t_keptChanges t_keptHeard t_keptWorth t_keptThing t_keptChangesOf t_keptHeir t_keptOne t_keptTwo t_keptMore t_h)) (pm0 (w_X7 cI cB ad_t t_wills t_heirs t_kindOf t_worthOf t_thingOf t_changesOf t_changes t_heard t_heardHeir t_heardOne t_heardTwo t_heardMore t_pageLength t_page t_says t_dealt t_farOf t_endMany t_endMost t_endLeast t_endFew t_seedNow t_saved t_isKept t_keptWill t_keptChanges t_keptHeard t_keptWorth t_keptThing t_keptChangesOf t_keptHeir t_keptOne t_keptTwo t_keptMore t_h)) (fun H locs hP hD hS => ?_)
          refine lv_goto (tgt := 93) hx hb dX7_worstNow_89 (by decide) ?_
          replace hf : (some v6 : Option (Int32)) = some rr := hf
          cases hf
          exact ret_i F hP hS dX7_worstNow_93
      · replace hf := (if_pos c2).symm.trans hf
        refine lv_iload_n hx hb dX7_worstNow_65 rfl (lv_at hl 3 rfl) ?_
        refine lv_goto (tgt := 93) hx hb dX7_worstNow_66 (by decide) ?_
        replace hf : (some x3 : Option (Int32)) = some rr := hf
        cases hf
        exact ret_i F hP hS dX7_worstNow_93
    · replace hf := (if_neg c1).symm.trans hf
      refine lv_aload_n hx hb dX7_worstNow_21 rfl (lv_at hl 0 rfl) ?_
      refine lv_iload hx hb dX7_worstNow_22 (lv_at hl 4 rfl) ?_
      obtain ⟨v8, e9, hf⟩ := bnd hf
      refine cV F hP hD hS (k_X7_worstBy l ad_t t_wills t_heirs t_kindOf t_worthOf t_thingOf t_changesOf t_changes t_heard t_heardHeir t_heardOne t_heardTwo t_heardMore t_pageLength t_page t_says t_dealt t_farOf t_endMany t_endMost t_endLeast t_endFew t_seedNow t_saved t_isKept t_keptWill t_keptChanges t_keptHeard t_keptWorth t_keptThing t_keptChangesOf t_keptHeir t_keptOne t_keptTwo t_keptMore t_h x4 e9) gX7_worstNow_X7_worstBy rfl ⟨rfl, rfl⟩ nd_X7_worstBy ⟨Nat.le_of_ble_eq_true rfl, Nat.le_of_ble_eq_true rfl⟩ 0 7 rfl rfl rfl hl.1 rfl (Nat.le_of_ble_eq_true rfl) dX7_worstNow_24 (pm0 (w_X7 cI cB ad_t t_wills t_heirs t_kindOf t_worthOf t_thingOf t_changesOf t_changes t_heard t_heardHeir t_heardOne t_heardTwo t_heardMore t_pageLength t_page t_says t_dealt t_farOf t_endMany t_endMost t_endLeast t_endFew t_seedNow t_saved t_isKept t_keptWill t_keptChanges t_keptHeard t_keptWorth t_keptThing t_keptChangesOf t_keptHeir t_keptOne t_keptTwo t_keptMore t_h)) (pm0 (w_X7 cI cB ad_t t_wills t_heirs t_kindOf t_worthOf t_thingOf t_changesOf t_changes t_heard t_heardHeir t_heardOne t_heardTwo t_heardMore t_pageLength t_page t_says t_dealt t_farOf t_endMany t_endMost t_endLeast t_endFew t_seedNow t_saved t_isKept t_keptWill t_keptChanges t_keptHeard t_keptWorth t_keptThing t_keptChangesOf t_keptHeir t_keptOne t_keptTwo t_keptMore t_h)) (fun H locs hP hD hS => ?_)
      refine lv_istore (lv' := [(5, .int v8), (0, .ref (ad_t 0)), (1, .int x1), (2, .int x2), (3, .int x3), (4, .int x4)]) hx hb dX7_worstNow_27 hl (by decide) rfl (fun ls hl => ?_)
      refine lv_iload hx hb dX7_worstNow_29 (lv_at hl 0 rfl) ?_
      refine lv_iload_n hx hb dX7_worstNow_31 rfl (lv_at hl 4 rfl) ?_
      refine lv_icmp_ge (tgt := 40) hx hb dX7_worstNow_32 (by decide) (fun c10 => ?_) (fun c10 => ?_)
      · replace hf := (if_pos c10).symm.trans hf
        refine lv_iload_n hx hb dX7_worstNow_40 rfl (lv_at hl 3 rfl) ?_
        exact b_X7_worstNow_41 F (f_X7_worstNow_8 t_heirs t_worthOf  n) ih x1 x3 x4 v8 x2 H locs ls hP hD hS (lv_sub hl [1, 2, 4, 5, 0] rfl) hf
      · replace hf := (if_neg c10).symm.trans hf
        refine lv_iload hx hb dX7_worstNow_35 (lv_at hl 5 rfl) ?_
        refine lv_goto (tgt := 41) hx hb dX7_worstNow_37 (by decide) ?_
        exact b_X7_worstNow_41 F (f_X7_worstNow_8 t_heirs t_worthOf  n) ih x1 x3 x4 v8 x4 H locs ls hP hD hS (lv_sub hl [1, 2, 4, 5, 0] rfl) hf

set_option maxHeartbeats 4000000 in
set_option maxRecDepth 100000 in
theorem k_X7_worstNow (l : Launch) {D : va_G} {cI cB : ClassId} {kK kV : Nat → Nat} (ad_t : Nat → Nat) (t_wills : Int32) (t_heirs : Int32) (t_kindOf : Nat → Int32) (t_worthOf : Nat → Int32) (t_thingOf : Nat → Int32) (t_changesOf : Nat → Int32) (t_changes : Int32) (t_heard : Int32) (t_heardHeir : Nat → Int32) (t_heardOne : Nat → Int32) (t_heardTwo : Nat → Int32) (t_heardMore : Nat → Int32) (t_pageLength : Int32) (t_page : Nat → Int32) (t_says : Nat → Int32) (t_dealt : Nat → Int32) (t_farOf : Nat → Int32) (t_endMany : Int32) (t_endMost : Int32) (t_endLeast : Int32) (t_endFew : Int32) (t_seedNow : Int64) (t_saved : Nat → Int32) (t_isKept : Int32) (t_keptWill : Int32) (t_keptChanges : Int32) (t_keptHeard : Int32) (t_keptWorth : Nat → Int32) (t_keptThing : Nat → Int32) (t_keptChangesOf : Nat → Int32) (t_keptHeir : Nat → Int32) (t_keptOne : Nat → Int32) (t_keptTwo : Nat → Int32) (t_keptMore : Nat → Int32) (t_h : Int64) (x1 : Int32) {rr : Int32}  (hf : f_X7_worstNow t_heirs t_worthOf x1 = some rr) : Ct l yX7_worstNow wsX7_worstNow rm_X7_worstNow D cI cB kK kV [.ref (ad_t 0), .int x1] (w_X7 cI cB ad_t t_wills t_heirs t_kindOf t_worthOf t_thingOf t_changesOf t_changes t_heard t_heardHeir t_heardOne t_heardTwo t_heardMore t_pageLength t_page t_says t_dealt t_farOf t_endMany t_endMost t_endLeast t_endFew t_seedNow t_saved t_isKept t_keptWill t_keptChanges t_keptHeard t_keptWorth t_keptThing t_keptChangesOf t_keptHeir t_keptOne t_keptTwo t_keptMore t_h) (w_X7 cI cB ad_t t_wills t_heirs t_kindOf t_worthOf t_thingOf t_changesOf t_changes t_heard t_heardHeir t_heardOne t_heardTwo t_heardMore t_pageLength t_page t_says t_dealt t_farOf t_endMany t_endMost t_endLeast t_endFew t_seedNow t_saved t_isKept t_keptWill t_keptChanges t_keptHeard t_keptWorth t_keptThing t_keptChangesOf t_keptHeir t_keptOne t_keptTwo t_keptMore t_h) (some (.int rr)) := by
  refine Ct.of (cc := cX7_worstNow) (maxL := 6) (ret := (some .int)) (by decide) rfl (Nat.le_of_ble_eq_true rfl) rfl ?_
  intro p e s m below meth c A ls F hP hD hS hl
  have hl : lv_has ls 6 [(0, .ref (ad_t 0)), (1, .int x1)] := hl
  obtain ⟨hx, hb, hml, hown, hts, hrt, hlocks, hK, hA, hZ⟩ := id F
  obtain ⟨H, hH⟩ : ∃ H, H = s.heap := ⟨_, rfl⟩
  obtain ⟨locs, hLo⟩ : ∃ q : List Loc, q = [] := ⟨_, rfl⟩
  refine (?_ : W p l e rm_X7_worstNow s m _ below meth c s.heap [] 0 0 _ _)
  rw [← hH, ← hLo]
  rw [← hH] at hP
  have hS : va_S A s.heap H locs := by rw [hH, hLo]; exact hS
  refine lv_iconst (v := (-1)) hx hb dX7_worstNow_0 (by decide) ?_
  refine lv_istore_n (lv' := [(2, .int (-1)), (0, .ref (ad_t 0)), (1, .int x1)]) hx hb dX7_worstNow_1 rfl hl (by decide) rfl (fun ls hl => ?_)
  refine lv_ldc (v := 268435456) hx hb hown (hts _ (List.mem_of_getElem? (i := 1) rfl)) dX7_worstNow_2 ?_
  refine lv_istore_n (lv' := [(3, .int 268435456), (2, .int (-1)), (0, .ref (ad_t 0)), (1, .int x1)]) hx hb dX7_worstNow_4 rfl hl (by decide) rfl (fun ls hl => ?_)
  refine lv_iconst (v := 0) hx hb dX7_worstNow_5 (by decide) ?_
  refine lv_istore (lv' := [(4, .int 0), (3, .int 268435456), (2, .int (-1)), (0, .ref (ad_t 0)), (1, .int x1)]) hx hb dX7_worstNow_6 hl (by decide) rfl (fun ls hl => ?_)
  exact b_X7_worstNow_8 F 300 x1 (-1) 268435456 0 H locs ls hP hD hS (lv_sub hl [3, 4, 2, 1, 0] rfl) hf

/-! X7_worst -/
def rm_X7_worst : Room := { frames := 3, cells := 0, slots := 0, locals := 72 }
theorem in_X7_worst_X7 : ∀ w ∈ u_ws RX7 TX7 35, w ∈ wsX7_worst := fun _ h => List.mem_cons_of_mem _ (List.mem_append_right _ (h))
theorem nd_X7_worst : yX7_worst.cls = RX7 ∧ yX7_worst.cls ≠ "java/lang/invoke/MethodHandle" ∧ yX7_worst.cls ≠ "java/lang/invoke/VarHandle" ∧ (parseMethodDescriptor yX7_worst.desc).map (fun d => d.parameters.length) = some 1 := by decide +kernel
def f_X7_worst_18 (t_heirs : Int32) (t_worthOf : Nat → Int32)  (x1 : Int32) : Option (Int32) := (if t_heirs = 0 then some (-103) else (f_X7_worstNow t_heirs t_worthOf x1).bind (fun v2 => some v2))
def f_X7_worst (t_heirs : Int32) (t_worthOf : Nat → Int32) (x1 : Int32) : Option (Int32) := (if x1 = 0 then f_X7_worst_18 t_heirs t_worthOf x1 else (f_X7_within x1 10 13).bind (fun v2 => (if v2 = 0 then some (-102) else f_X7_worst_18 t_heirs t_worthOf x1)))
set_option maxHeartbeats 4000000 in
set_option maxRecDepth 100000 in
theorem b_X7_worst_18 {p : Program} {l : Launch} {e : Env} {s : State} {m : MethodId} {args : Array Value} {below : List Frame} {meth : Method} {c : Code} {D : va_G} {cI cB : ClassId} {kK kV : Nat → Nat} {A : Nat → Prop} (F : Fx p m c s meth args cX7_worst 2 RX7 wsX7_worst (some .int) D cI cB kK kV A) {ad_t : Nat → Nat} {t_wills : Int32} {t_heirs : Int32} {t_kindOf : Nat → Int32} {t_worthOf : Nat → Int32} {t_thingOf : Nat → Int32} {t_changesOf : Nat → Int32} {t_changes : Int32} {t_heard : Int32} {t_heardHeir : Nat → Int32} {t_heardOne : Nat → Int32} {t_heardTwo : Nat → Int32} {t_heardMore : Nat → Int32} {t_pageLength : Int32} {t_page : Nat → Int32} {t_says : Nat → Int32} {t_dealt : Nat → Int32} {t_farOf : Nat → Int32} {t_endMany : Int32} {t_endMost : Int32} {t_endLeast : Int32} {t_endFew : Int32} {t_seedNow : Int64} {t_saved : Nat → Int32} {t_isKept : Int32} {t_keptWill : Int32} {t_keptChanges : Int32} {t_keptHeard : Int32} {t_keptWorth : Nat → Int32} {t_keptThing : Nat → Int32} {t_keptChangesOf : Nat → Int32} {t_keptHeir : Nat → Int32} {t_keptOne : Nat → Int32} {t_keptTwo : Nat → Int32} {t_keptMore : Nat → Int32} {t_h : Int64} {rr : Int32}  : ∀ (x1 : Int32) (H : Heap) (locs : List Loc) (ls : Array Slot), va_P D vwCl (w_X7 cI cB ad_t t_wills t_heirs t_kindOf t_worthOf t_thingOf t_changesOf t_changes t_heard t_heardHeir t_heardOne t_heardTwo t_heardMore t_pageLength t_page t_says t_dealt t_farOf t_endMany t_endMost t_endLeast t_endFew t_seedNow t_saved t_isKept t_keptWill t_keptChanges t_keptHeard t_keptWorth t_keptThing t_keptChangesOf t_keptHeir t_keptOne t_keptTwo t_keptMore t_h) H → va_D A (w_X7 cI cB ad_t t_wills t_heirs t_kindOf t_worthOf t_thingOf t_changesOf t_changes t_heard t_heardHeir t_heardOne t_heardTwo t_heardMore t_pageLength t_page t_says t_dealt t_farOf t_endMany t_endMost t_endLeast t_endFew t_seedNow t_saved t_isKept t_keptWill t_keptChanges t_keptHeard t_keptWorth t_keptThing t_keptChangesOf t_keptHeir t_keptOne t_keptTwo t_keptMore t_h) → va_S A s.heap H locs → lv_has ls 2 [(0, .ref (ad_t 0)), (1, .int x1)] → f_X7_worst_18 t_heirs t_worthOf  x1 = some rr → W p l e rm_X7_worst s m args below meth c H locs 0 0 (Zq D below args s A (w_X7 cI cB ad_t t_wills t_heirs t_kindOf t_worthOf t_thingOf t_changesOf t_changes t_heard t_heardHeir t_heardOne t_heardTwo t_heardMore t_pageLength t_page t_says t_dealt t_farOf t_endMany t_endMost t_endLeast t_endFew t_seedNow t_saved t_isKept t_keptWill t_keptChanges t_keptHeard t_keptWorth t_keptThing t_keptChangesOf t_keptHeir t_keptOne t_keptTwo t_keptMore t_h) (some (.int rr))) (F0 m 18 ls []) := by
  obtain ⟨hx, hb, hml, hown, hts, hrt, hlocks, hK, hA, hZ⟩ := id F
  intro x1 H locs ls hP hD hS hl hf
  refine lv_aload_n hx hb dX7_worst_18 rfl (lv_at hl 0 rfl) ?_
  refine gf F hP in_X7_worst_X7 0 rfl rfl 1 (by decide) 1 rfl rfl dX7_worst_19 ?_
  refine lv_if_ne (tgt := 30) hx hb dX7_worst_22 (by decide) (fun c1 => ?_) (fun c1 => ?_)
  · replace hf := (if_neg c1).symm.trans hf
    refine lv_aload_n hx hb dX7_worst_30 rfl (lv_at hl 0 rfl) ?_
    refine lv_iload_n hx hb dX7_worst_31 rfl (lv_at hl 1 rfl) ?_
    obtain ⟨v2, e3, hf⟩ := bnd hf
    refine cV F hP hD hS (k_X7_worstNow l ad_t t_wills t_heirs t_kindOf t_worthOf t_thingOf t_changesOf t_changes t_heard t_heardHeir t_heardOne t_heardTwo t_heardMore t_pageLength t_page t_says t_dealt t_farOf t_endMany t_endMost t_endLeast t_endFew t_seedNow t_saved t_isKept t_keptWill t_keptChanges t_keptHeard t_keptWorth t_keptThing t_keptChangesOf t_keptHeir t_keptOne t_keptTwo t_keptMore t_h x1 e3) gX7_worst_X7_worstNow rfl ⟨rfl, rfl⟩ nd_X7_worstNow ⟨Nat.le_of_ble_eq_true rfl, Nat.le_of_ble_eq_true rfl⟩ 0 7 rfl rfl rfl hl.1 rfl (Nat.le_of_ble_eq_true rfl) dX7_worst_32 (pm0 (w_X7 cI cB ad_t t_wills t_heirs t_kindOf t_worthOf t_thingOf t_changesOf t_changes t_heard t_heardHeir t_heardOne t_heardTwo t_heardMore t_pageLength t_page t_says t_dealt t_farOf t_endMany t_endMost t_endLeast t_endFew t_seedNow t_saved t_isKept t_keptWill t_keptChanges t_keptHeard t_keptWorth t_keptThing t_keptChangesOf t_keptHeir t_keptOne t_keptTwo t_keptMore t_h)) (pm0 (w_X7 cI cB ad_t t_wills t_heirs t_kindOf t_worthOf t_thingOf t_changesOf t_changes t_heard t_heardHeir t_heardOne t_heardTwo t_heardMore t_pageLength t_page t_says t_dealt t_farOf t_endMany t_endMost t_endLeast t_endFew t_seedNow t_saved t_isKept t_keptWill t_keptChanges t_keptHeard t_keptWorth t_keptThing t_keptChangesOf t_keptHeir t_keptOne t_keptTwo t_keptMore t_h)) (fun H locs hP hD hS => ?_)
    replace hf : (some v2 : Option (Int32)) = some rr := hf
    cases hf
    exact ret_i F hP hS dX7_worst_35
  · replace hf := (if_pos c1).symm.trans hf
    refine lv_bipush (v := (-103)) hx hb dX7_worst_25 (by decide) ?_
    refine lv_goto (tgt := 35) hx hb dX7_worst_27 (by decide) ?_
    replace hf : (some (-103) : Option (Int32)) = some rr := hf
    cases hf
    exact ret_i F hP hS dX7_worst_35

set_option maxHeartbeats 4000000 in
set_option maxRecDepth 100000 in
theorem k_X7_worst (l : Launch) {D : va_G} {cI cB : ClassId} {kK kV : Nat → Nat} (ad_t : Nat → Nat) (t_wills : Int32) (t_heirs : Int32) (t_kindOf : Nat → Int32) (t_worthOf : Nat → Int32) (t_thingOf : Nat → Int32) (t_changesOf : Nat → Int32) (t_changes : Int32) (t_heard : Int32) (t_heardHeir : Nat → Int32) (t_heardOne : Nat → Int32) (t_heardTwo : Nat → Int32) (t_heardMore : Nat → Int32) (t_pageLength : Int32) (t_page : Nat → Int32) (t_says : Nat → Int32) (t_dealt : Nat → Int32) (t_farOf : Nat → Int32) (t_endMany : Int32) (t_endMost : Int32) (t_endLeast : Int32) (t_endFew : Int32) (t_seedNow : Int64) (t_saved : Nat → Int32) (t_isKept : Int32) (t_keptWill : Int32) (t_keptChanges : Int32) (t_keptHeard : Int32) (t_keptWorth : Nat → Int32) (t_keptThing : Nat → Int32) (t_keptChangesOf : Nat → Int32) (t_keptHeir : Nat → Int32) (t_keptOne : Nat → Int32) (t_keptTwo : Nat → Int32) (t_keptMore : Nat → Int32) (t_h : Int64) (x1 : Int32) {rr : Int32}  (hf : f_X7_worst t_heirs t_worthOf x1 = some rr) : Ct l yX7_worst wsX7_worst rm_X7_worst D cI cB kK kV [.ref (ad_t 0), .int x1] (w_X7 cI cB ad_t t_wills t_heirs t_kindOf t_worthOf t_thingOf t_changesOf t_changes t_heard t_heardHeir t_heardOne t_heardTwo t_heardMore t_pageLength t_page t_says t_dealt t_farOf t_endMany t_endMost t_endLeast t_endFew t_seedNow t_saved t_isKept t_keptWill t_keptChanges t_keptHeard t_keptWorth t_keptThing t_keptChangesOf t_keptHeir t_keptOne t_keptTwo t_keptMore t_h) (w_X7 cI cB ad_t t_wills t_heirs t_kindOf t_worthOf t_thingOf t_changesOf t_changes t_heard t_heardHeir t_heardOne t_heardTwo t_heardMore t_pageLength t_page t_says t_dealt t_farOf t_endMany t_endMost t_endLeast t_endFew t_seedNow t_saved t_isKept t_keptWill t_keptChanges t_keptHeard t_keptWorth t_keptThing t_keptChangesOf t_keptHeir t_keptOne t_keptTwo t_keptMore t_h) (some (.int rr)) := by
  refine Ct.of (cc := cX7_worst) (maxL := 2) (ret := (some .int)) (by decide) rfl (Nat.le_of_ble_eq_true rfl) rfl ?_
  intro p e s m below meth c A ls F hP hD hS hl
  have hl : lv_has ls 2 [(0, .ref (ad_t 0)), (1, .int x1)] := hl
  obtain ⟨hx, hb, hml, hown, hts, hrt, hlocks, hK, hA, hZ⟩ := id F
  obtain ⟨H, hH⟩ : ∃ H, H = s.heap := ⟨_, rfl⟩
  obtain ⟨locs, hLo⟩ : ∃ q : List Loc, q = [] := ⟨_, rfl⟩
  refine (?_ : W p l e rm_X7_worst s m _ below meth c s.heap [] 0 0 _ _)
  rw [← hH, ← hLo]
  rw [← hH] at hP
  have hS : va_S A s.heap H locs := by rw [hH, hLo]; exact hS
  refine lv_iload_n hx hb dX7_worst_0 rfl (lv_at hl 1 rfl) ?_
  refine lv_if_eq (tgt := 18) hx hb dX7_worst_1 (by decide) (fun c1 => ?_) (fun c1 => ?_)
  · replace hf := (if_pos c1).symm.trans hf
    exact b_X7_worst_18 F  x1 H locs ls hP hD hS (lv_sub hl [0, 1] rfl) hf
  · replace hf := (if_neg c1).symm.trans hf
    refine lv_iload_n hx hb dX7_worst_4 rfl (lv_at hl 1 rfl) ?_
    refine lv_bipush (v := 10) hx hb dX7_worst_5 (by decide) ?_
    refine lv_bipush (v := 13) hx hb dX7_worst_7 (by decide) ?_
    obtain ⟨v2, e3, hf⟩ := bnd hf
    refine cS F hP hD hS (k_X7_within l  x1 10 13 e3) gX7_worst_X7_within rfl ⟨rfl, rfl⟩ nd_X7_within ⟨Nat.le_of_ble_eq_true rfl, Nat.le_of_ble_eq_true rfl⟩ rfl hl.1 rfl (Nat.le_of_ble_eq_true rfl) dX7_worst_9 (pmE (w_X7 cI cB ad_t t_wills t_heirs t_kindOf t_worthOf t_thingOf t_changesOf t_changes t_heard t_heardHeir t_heardOne t_heardTwo t_heardMore t_pageLength t_page t_says t_dealt t_farOf t_endMany t_endMost t_endLeast t_endFew t_seedNow t_saved t_isKept t_keptWill t_keptChanges t_keptHeard t_keptWorth t_keptThing t_keptChangesOf t_keptHeir t_keptOne t_keptTwo t_keptMore t_h)) (pmE (w_X7 cI cB ad_t t_wills t_heirs t_kindOf t_worthOf t_thingOf t_changesOf t_changes t_heard t_heardHeir t_heardOne t_heardTwo t_heardMore t_pageLength t_page t_says t_dealt t_farOf t_endMany t_endMost t_endLeast t_endFew t_seedNow t_saved t_isKept t_keptWill t_keptChanges t_keptHeard t_keptWorth t_keptThing t_keptChangesOf t_keptHeir t_keptOne t_keptTwo t_keptMore t_h)) (fun H locs hP hD hS => ?_)
    refine lv_if_ne (tgt := 18) hx hb dX7_worst_12 (by decide) (fun c4 => ?_) (fun c4 => ?_)
    · replace hf := (if_neg c4).symm.trans hf
      exact b_X7_worst_18 F  x1 H locs ls hP hD hS (lv_sub hl [0, 1] rfl) hf
    · replace hf := (if_pos c4).symm.trans hf
      refine lv_bipush (v := (-102)) hx hb dX7_worst_15 (by decide) ?_
      replace hf : (some (-102) : Option (Int32)) = some rr := hf
      cases hf
      exact ret_i F hP hS dX7_worst_17

/-! X7_hear -/
def rm_X7_hear : Room := { frames := 2, cells := 0, slots := 0, locals := 43 }
theorem in_X7_hear_X7 : ∀ w ∈ u_ws RX7 TX7 35, w ∈ wsX7_hear := fun _ h => List.mem_cons_of_mem _ (List.mem_append_right _ (h))
theorem nd_X7_hear : yX7_hear.cls = RX7 ∧ yX7_hear.cls ≠ "java/lang/invoke/MethodHandle" ∧ yX7_hear.cls ≠ "java/lang/invoke/VarHandle" ∧ (parseMethodDescriptor yX7_hear.desc).map (fun d => d.parameters.length) = some 4 := by decide +kernel
def f_X7_hear_92 (t_heirs : Int32)  (k0 : Int32) (k1 : Int32) (t_heard : Int32) (t_heardHeir : Nat → Int32) (t_heardOne : Nat → Int32) (t_heardTwo : Nat → Int32) (t_heardMore : Nat → Int32) : Option (Int32 × Int32 × (Nat → Int32) × (Nat → Int32) × (Nat → Int32) × (Nat → Int32)) := (wr t_heardMore 6 k1 k0).bind (fun g1 => some ((t_heard + 1), (t_heard + 1), t_heardHeir, t_heardOne, t_heardTwo, g1))
def f_X7_hear (t_heirs : Int32) (t_heard : Int32) (t_heardHeir : Nat → Int32) (t_heardOne : Nat → Int32) (t_heardTwo : Nat → Int32) (t_heardMore : Nat → Int32) (x1 : Int32) (x2 : Int32) (x3 : Int32) (x4 : Int32) : Option (Int32 × Int32 × (Nat → Int32) × (Nat → Int32) × (Nat → Int32) × (Nat → Int32)) := (f_X7_isHeir t_heirs x1).bind (fun v1 => (if v1 = 0 then some ((-101), t_heard, t_heardHeir, t_heardOne, t_heardTwo, t_heardMore) else (f_X7_isThing t_heirs x2).bind (fun v4 => (if v4 = 0 then some ((-101), t_heard, t_heardHeir, t_heardOne, t_heardTwo, t_heardMore) else (f_X7_isThing t_heirs x3).bind (fun v7 => (if v7 = 0 then some ((-101), t_heard, t_heardHeir, t_heardOne, t_heardTwo, t_heardMore) else (if x2 = x3 then some ((-101), t_heard, t_heardHeir, t_heardOne, t_heardTwo, t_heardMore) else (if t_heard = 6 then some ((-104), t_heard, t_heardHeir, t_heardOne, t_heardTwo, t_heardMore) else (wr t_heardHeir 6 t_heard x1).bind (fun g12 => (wr t_heardOne 6 t_heard x2).bind (fun g13 => (wr t_heardTwo 6 t_heard x3).bind (fun g14 => (if x4 = 0 then f_X7_hear_92 t_heirs 0 t_heard t_heard g12 g13 g14 t_heardMore else f_X7_hear_92 t_heirs 1 t_heard t_heard g12 g13 g14 t_heardMore))))))))))))
set_option maxHeartbeats 4000000 in
set_option maxRecDepth 100000 in
theorem b_X7_hear_92 {p : Program} {l : Launch} {e : Env} {s : State} {m : MethodId} {args : Array Value} {below : List Frame} {meth : Method} {c : Code} {D : va_G} {cI cB : ClassId} {kK kV : Nat → Nat} {A : Nat → Prop} (F : Fx p m c s meth args cX7_hear 5 RX7 wsX7_hear (some .int) D cI cB kK kV A) {ad_t : Nat → Nat} {t_wills : Int32} {t_heirs : Int32} {t_kindOf : Nat → Int32} {t_worthOf : Nat → Int32} {t_thingOf : Nat → Int32} {t_changesOf : Nat → Int32} {t_changes : Int32} {t_pageLength : Int32} {t_page : Nat → Int32} {t_says : Nat → Int32} {t_dealt : Nat → Int32} {t_farOf : Nat → Int32} {t_endMany : Int32} {t_endMost : Int32} {t_endLeast : Int32} {t_endFew : Int32} {t_seedNow : Int64} {t_saved : Nat → Int32} {t_isKept : Int32} {t_keptWill : Int32} {t_keptChanges : Int32} {t_keptHeard : Int32} {t_keptWorth : Nat → Int32} {t_keptThing : Nat → Int32} {t_keptChangesOf : Nat → Int32} {t_keptHeir : Nat → Int32} {t_keptOne : Nat → Int32} {t_keptTwo : Nat → Int32} {t_keptMore : Nat → Int32} {t_h : Int64} {rr : Int32} {g_t_heard : Int32} {g_t_heardHeir : Nat → Int32} {g_t_heardOne : Nat → Int32} {g_t_heardTwo : Nat → Int32} {g_t_heardMore : Nat → Int32} : ∀ (k0 : Int32) (k1 : Int32) (t_heard : Int32) (t_heardHeir : Nat → Int32) (t_heardOne : Nat → Int32) (t_heardTwo : Nat → Int32) (t_heardMore : Nat → Int32) (H : Heap) (locs : List Loc) (ls : Array Slot), va_P D vwCl (w_X7 cI cB ad_t t_wills t_heirs t_kindOf t_worthOf t_thingOf t_changesOf t_changes t_heard t_heardHeir t_heardOne t_heardTwo t_heardMore t_pageLength t_page t_says t_dealt t_farOf t_endMany t_endMost t_endLeast t_endFew t_seedNow t_saved t_isKept t_keptWill t_keptChanges t_keptHeard t_keptWorth t_keptThing t_keptChangesOf t_keptHeir t_keptOne t_keptTwo t_keptMore t_h) H → va_D A (w_X7 cI cB ad_t t_wills t_heirs t_kindOf t_worthOf t_thingOf t_changesOf t_changes t_heard t_heardHeir t_heardOne t_heardTwo t_heardMore t_pageLength t_page t_says t_dealt t_farOf t_endMany t_endMost t_endLeast t_endFew t_seedNow t_saved t_isKept t_keptWill t_keptChanges t_keptHeard t_keptWorth t_keptThing t_keptChangesOf t_keptHeir t_keptOne t_keptTwo t_keptMore t_h) → va_S A s.heap H locs → lv_has ls 5 [(0, .ref (ad_t 0))] → f_X7_hear_92 t_heirs  k0 k1 t_heard t_heardHeir t_heardOne t_heardTwo t_heardMore = some (rr, g_t_heard, g_t_heardHeir, g_t_heardOne, g_t_heardTwo, g_t_heardMore) → W p l e rm_X7_hear s m args below meth c H locs 0 0 (Zq D below args s A (w_X7 cI cB ad_t t_wills t_heirs t_kindOf t_worthOf t_thingOf t_changesOf t_changes g_t_heard g_t_heardHeir g_t_heardOne g_t_heardTwo g_t_heardMore t_pageLength t_page t_says t_dealt t_farOf t_endMany t_endMost t_endLeast t_endFew t_seedNow t_saved t_isKept t_keptWill t_keptChanges t_keptHeard t_keptWorth t_keptThing t_keptChangesOf t_keptHeir t_keptOne t_keptTwo t_keptMore t_h) (some (.int rr))) (F0 m 92 ls [.int k0, .int k1, .ref (ad_t 8)]) := by
  obtain ⟨hx, hb, hml, hown, hts, hrt, hlocks, hK, hA, hZ⟩ := id F
  intro k0 k1 t_heard t_heardHeir t_heardOne t_heardTwo t_heardMore H locs ls hP hD hS hl hf
  obtain ⟨g1, eg1, hf⟩ := bnd hf
  refine ast F hP hD hS 8 rfl eg1 dX7_hear_92 (w_X7 cI cB ad_t t_wills t_heirs t_kindOf t_worthOf t_thingOf t_changesOf t_changes t_heard t_heardHeir t_heardOne t_heardTwo g1 t_pageLength t_page t_says t_dealt t_farOf t_endMany t_endMost t_endLeast t_endFew t_seedNow t_saved t_isKept t_keptWill t_keptChanges t_keptHeard t_keptWorth t_keptThing t_keptChangesOf t_keptHeir t_keptOne t_keptTwo t_keptMore t_h) rfl (fun H locs hP hD hS => ?_)
  refine lv_aload_n hx hb dX7_hear_93 rfl (lv_at hl 0 rfl) ?_
  refine lv_dup hx hb dX7_hear_94 rfl ?_
  refine gf F hP in_X7_hear_X7 0 rfl rfl 7 (by decide) 1 rfl rfl dX7_hear_95 ?_
  refine lv_iconst (v := 1) hx hb dX7_hear_98 (by decide) ?_
  refine lv_iadd hx hb dX7_hear_99 ?_
  refine pf F hP hD hS in_X7_hear_X7 tyX7 tyX7_ok nmX7 0 rfl rfl 7 (by decide) 1 rfl rfl rfl rfl (Nat.le_of_ble_eq_true rfl) dX7_hear_100 (w_X7 cI cB ad_t t_wills t_heirs t_kindOf t_worthOf t_thingOf t_changesOf t_changes (t_heard + 1) t_heardHeir t_heardOne t_heardTwo g1 t_pageLength t_page t_says t_dealt t_farOf t_endMany t_endMost t_endLeast t_endFew t_seedNow t_saved t_isKept t_keptWill t_keptChanges t_keptHeard t_keptWorth t_keptThing t_keptChangesOf t_keptHeir t_keptOne t_keptTwo t_keptMore t_h) rfl (fun H locs hP hD hS => ?_)
  refine lv_aload_n hx hb dX7_hear_103 rfl (lv_at hl 0 rfl) ?_
  refine gf F hP in_X7_hear_X7 0 rfl rfl 7 (by decide) 1 rfl rfl dX7_hear_104 ?_
  replace hf : (some ((t_heard + 1), (t_heard + 1), t_heardHeir, t_heardOne, t_heardTwo, g1) : Option (Int32 × Int32 × (Nat → Int32) × (Nat → Int32) × (Nat → Int32) × (Nat → Int32))) = some (rr, g_t_heard, g_t_heardHeir, g_t_heardOne, g_t_heardTwo, g_t_heardMore) := hf
  cases hf
  exact ret_i F hP hS dX7_hear_107

set_option maxHeartbeats 4000000 in
set_option maxRecDepth 100000 in
theorem k_X7_hear (l : Launch) {D : va_G} {cI cB : ClassId} {kK kV : Nat → Nat} (ad_t : Nat → Nat) (t_wills : Int32) (t_heirs : Int32) (t_kindOf : Nat → Int32) (t_worthOf : Nat → Int32) (t_thingOf : Nat → Int32) (t_changesOf : Nat → Int32) (t_changes : Int32) (t_heard : Int32) (t_heardHeir : Nat → Int32) (t_heardOne : Nat → Int32) (t_heardTwo : Nat → Int32) (t_heardMore : Nat → Int32) (t_pageLength : Int32) (t_page : Nat → Int32) (t_says : Nat → Int32) (t_dealt : Nat → Int32) (t_farOf : Nat → Int32) (t_endMany : Int32) (t_endMost : Int32) (t_endLeast : Int32) (t_endFew : Int32) (t_seedNow : Int64) (t_saved : Nat → Int32) (t_isKept : Int32) (t_keptWill : Int32) (t_keptChanges : Int32) (t_keptHeard : Int32) (t_keptWorth : Nat → Int32) (t_keptThing : Nat → Int32) (t_keptChangesOf : Nat → Int32) (t_keptHeir : Nat → Int32) (t_keptOne : Nat → Int32) (t_keptTwo : Nat → Int32) (t_keptMore : Nat → Int32) (t_h : Int64) (x1 : Int32) (x2 : Int32) (x3 : Int32) (x4 : Int32) {rr : Int32} {g_t_heard : Int32} {g_t_heardHeir : Nat → Int32} {g_t_heardOne : Nat → Int32} {g_t_heardTwo : Nat → Int32} {g_t_heardMore : Nat → Int32} (hf : f_X7_hear t_heirs t_heard t_heardHeir t_heardOne t_heardTwo t_heardMore x1 x2 x3 x4 = some (rr, g_t_heard, g_t_heardHeir, g_t_heardOne, g_t_heardTwo, g_t_heardMore)) : Ct l yX7_hear wsX7_hear rm_X7_hear D cI cB kK kV [.ref (ad_t 0), .int x1, .int x2, .int x3, .int x4] (w_X7 cI cB ad_t t_wills t_heirs t_kindOf t_worthOf t_thingOf t_changesOf t_changes t_heard t_heardHeir t_heardOne t_heardTwo t_heardMore t_pageLength t_page t_says t_dealt t_farOf t_endMany t_endMost t_endLeast t_endFew t_seedNow t_saved t_isKept t_keptWill t_keptChanges t_keptHeard t_keptWorth t_keptThing t_keptChangesOf t_keptHeir t_keptOne t_keptTwo t_keptMore t_h) (w_X7 cI cB ad_t t_wills t_heirs t_kindOf t_worthOf t_thingOf t_changesOf t_changes g_t_heard g_t_heardHeir g_t_heardOne g_t_heardTwo g_t_heardMore t_pageLength t_page t_says t_dealt t_farOf t_endMany t_endMost t_endLeast t_endFew t_seedNow t_saved t_isKept t_keptWill t_keptChanges t_keptHeard t_keptWorth t_keptThing t_keptChangesOf t_keptHeir t_keptOne t_keptTwo t_keptMore t_h) (some (.int rr)) := by
  refine Ct.of (cc := cX7_hear) (maxL := 5) (ret := (some .int)) (by decide) rfl (Nat.le_of_ble_eq_true rfl) rfl ?_
  intro p e s m below meth c A ls F hP hD hS hl
  have hl : lv_has ls 5 [(0, .ref (ad_t 0)), (1, .int x1), (2, .int x2), (3, .int x3), (4, .int x4)] := hl
  obtain ⟨hx, hb, hml, hown, hts, hrt, hlocks, hK, hA, hZ⟩ := id F
  obtain ⟨H, hH⟩ : ∃ H, H = s.heap := ⟨_, rfl⟩
  obtain ⟨locs, hLo⟩ : ∃ q : List Loc, q = [] := ⟨_, rfl⟩
  refine (?_ : W p l e rm_X7_hear s m _ below meth c s.heap [] 0 0 _ _)
  rw [← hH, ← hLo]
  rw [← hH] at hP
  have hS : va_S A s.heap H locs := by rw [hH, hLo]; exact hS
  refine lv_aload_n hx hb dX7_hear_0 rfl (lv_at hl 0 rfl) ?_
  refine lv_iload_n hx hb dX7_hear_1 rfl (lv_at hl 1 rfl) ?_
  obtain ⟨v1, e2, hf⟩ := bnd hf
  refine cV F hP hD hS (k_X7_isHeir l ad_t t_wills t_heirs t_kindOf t_worthOf t_thingOf t_changesOf t_changes t_heard t_heardHeir t_heardOne t_heardTwo t_heardMore t_pageLength t_page t_says t_dealt t_farOf t_endMany t_endMost t_endLeast t_endFew t_seedNow t_saved t_isKept t_keptWill t_keptChanges t_keptHeard t_keptWorth t_keptThing t_keptChangesOf t_keptHeir t_keptOne t_keptTwo t_keptMore t_h x1 e2) gX7_hear_X7_isHeir rfl ⟨rfl, rfl⟩ nd_X7_isHeir ⟨Nat.le_of_ble_eq_true rfl, Nat.le_of_ble_eq_true rfl⟩ 0 7 rfl rfl rfl hl.1 rfl (Nat.le_of_ble_eq_true rfl) dX7_hear_2 (pm0 (w_X7 cI cB ad_t t_wills t_heirs t_kindOf t_worthOf t_thingOf t_changesOf t_changes t_heard t_heardHeir t_heardOne t_heardTwo t_heardMore t_pageLength t_page t_says t_dealt t_farOf t_endMany t_endMost t_endLeast t_endFew t_seedNow t_saved t_isKept t_keptWill t_keptChanges t_keptHeard t_keptWorth t_keptThing t_keptChangesOf t_keptHeir t_keptOne t_keptTwo t_keptMore t_h)) (pm0 (w_X7 cI cB ad_t t_wills t_heirs t_kindOf t_worthOf t_thingOf t_changesOf t_changes t_heard t_heardHeir t_heardOne t_heardTwo t_heardMore t_pageLength t_page t_says t_dealt t_farOf t_endMany t_endMost t_endLeast t_endFew t_seedNow t_saved t_isKept t_keptWill t_keptChanges t_keptHeard t_keptWorth t_keptThing t_keptChangesOf t_keptHeir t_keptOne t_keptTwo t_keptMore t_h)) (fun H locs hP hD hS => ?_)
  refine lv_if_eq (tgt := 29) hx hb dX7_hear_5 (by decide) (fun c3 => ?_) (fun c3 => ?_)
  · replace hf := (if_pos c3).symm.trans hf
    refine lv_bipush (v := (-101)) hx hb dX7_hear_29 (by decide) ?_
    replace hf : (some ((-101), t_heard, t_heardHeir, t_heardOne, t_heardTwo, t_heardMore) : Option (Int32 × Int32 × (Nat → Int32) × (Nat → Int32) × (Nat → Int32) × (Nat → Int32))) = some (rr, g_t_heard, g_t_heardHeir, g_t_heardOne, g_t_heardTwo, g_t_heardMore) := hf
    cases hf
    exact ret_i F hP hS dX7_hear_31
  · replace hf := (if_neg c3).symm.trans hf
    refine lv_aload_n hx hb dX7_hear_8 rfl (lv_at hl 0 rfl) ?_
    refine lv_iload_n hx hb dX7_hear_9 rfl (lv_at hl 2 rfl) ?_
    obtain ⟨v4, e5, hf⟩ := bnd hf
    refine cV F hP hD hS (k_X7_isThing l ad_t t_wills t_heirs t_kindOf t_worthOf t_thingOf t_changesOf t_changes t_heard t_heardHeir t_heardOne t_heardTwo t_heardMore t_pageLength t_page t_says t_dealt t_farOf t_endMany t_endMost t_endLeast t_endFew t_seedNow t_saved t_isKept t_keptWill t_keptChanges t_keptHeard t_keptWorth t_keptThing t_keptChangesOf t_keptHeir t_keptOne t_keptTwo t_keptMore t_h x2 e5) gX7_hear_X7_isThing rfl ⟨rfl, rfl⟩ nd_X7_isThing ⟨Nat.le_of_ble_eq_true rfl, Nat.le_of_ble_eq_true rfl⟩ 0 7 rfl rfl rfl hl.1 rfl (Nat.le_of_ble_eq_true rfl) dX7_hear_10 (pm0 (w_X7 cI cB ad_t t_wills t_heirs t_kindOf t_worthOf t_thingOf t_changesOf t_changes t_heard t_heardHeir t_heardOne t_heardTwo t_heardMore t_pageLength t_page t_says t_dealt t_farOf t_endMany t_endMost t_endLeast t_endFew t_seedNow t_saved t_isKept t_keptWill t_keptChanges t_keptHeard t_keptWorth t_keptThing t_keptChangesOf t_keptHeir t_keptOne t_keptTwo t_keptMore t_h)) (pm0 (w_X7 cI cB ad_t t_wills t_heirs t_kindOf t_worthOf t_thingOf t_changesOf t_changes t_heard t_heardHeir t_heardOne t_heardTwo t_heardMore t_pageLength t_page t_says t_dealt t_farOf t_endMany t_endMost t_endLeast t_endFew t_seedNow t_saved t_isKept t_keptWill t_keptChanges t_keptHeard t_keptWorth t_keptThing t_keptChangesOf t_keptHeir t_keptOne t_keptTwo t_keptMore t_h)) (fun H locs hP hD hS => ?_)
    refine lv_if_eq (tgt := 29) hx hb dX7_hear_13 (by decide) (fun c6 => ?_) (fun c6 => ?_)
    · replace hf := (if_pos c6).symm.trans hf
      refine lv_bipush (v := (-101)) hx hb dX7_hear_29 (by decide) ?_
      replace hf : (some ((-101), t_heard, t_heardHeir, t_heardOne, t_heardTwo, t_heardMore) : Option (Int32 × Int32 × (Nat → Int32) × (Nat → Int32) × (Nat → Int32) × (Nat → Int32))) = some (rr, g_t_heard, g_t_heardHeir, g_t_heardOne, g_t_heardTwo, g_t_heardMore) := hf
      cases hf
      exact ret_i F hP hS dX7_hear_31
    · replace hf := (if_neg c6).symm.trans hf
      refine lv_aload_n hx hb dX7_hear_16 rfl (lv_at hl 0 rfl) ?_
      refine lv_iload_n hx hb dX7_hear_17 rfl (lv_at hl 3 rfl) ?_
      obtain ⟨v7, e8, hf⟩ := bnd hf
      refine cV F hP hD hS (k_X7_isThing l ad_t t_wills t_heirs t_kindOf t_worthOf t_thingOf t_changesOf t_changes t_heard t_heardHeir t_heardOne t_heardTwo t_heardMore t_pageLength t_page t_says t_dealt t_farOf t_endMany t_endMost t_endLeast t_endFew t_seedNow t_saved t_isKept t_keptWill t_keptChanges t_keptHeard t_keptWorth t_keptThing t_keptChangesOf t_keptHeir t_keptOne t_keptTwo t_keptMore t_h x3 e8) gX7_hear_X7_isThing rfl ⟨rfl, rfl⟩ nd_X7_isThing ⟨Nat.le_of_ble_eq_true rfl, Nat.le_of_ble_eq_true rfl⟩ 0 7 rfl rfl rfl hl.1 rfl (Nat.le_of_ble_eq_true rfl) dX7_hear_18 (pm0 (w_X7 cI cB ad_t t_wills t_heirs t_kindOf t_worthOf t_thingOf t_changesOf t_changes t_heard t_heardHeir t_heardOne t_heardTwo t_heardMore t_pageLength t_page t_says t_dealt t_farOf t_endMany t_endMost t_endLeast t_endFew t_seedNow t_saved t_isKept t_keptWill t_keptChanges t_keptHeard t_keptWorth t_keptThing t_keptChangesOf t_keptHeir t_keptOne t_keptTwo t_keptMore t_h)) (pm0 (w_X7 cI cB ad_t t_wills t_heirs t_kindOf t_worthOf t_thingOf t_changesOf t_changes t_heard t_heardHeir t_heardOne t_heardTwo t_heardMore t_pageLength t_page t_says t_dealt t_farOf t_endMany t_endMost t_endLeast t_endFew t_seedNow t_saved t_isKept t_keptWill t_keptChanges t_keptHeard t_keptWorth t_keptThing t_keptChangesOf t_keptHeir t_keptOne t_keptTwo t_keptMore t_h)) (fun H locs hP hD hS => ?_)
      refine lv_if_eq (tgt := 29) hx hb dX7_hear_21 (by decide) (fun c9 => ?_) (fun c9 => ?_)
      · replace hf := (if_pos c9).symm.trans hf
        refine lv_bipush (v := (-101)) hx hb dX7_hear_29 (by decide) ?_
        replace hf : (some ((-101), t_heard, t_heardHeir, t_heardOne, t_heardTwo, t_heardMore) : Option (Int32 × Int32 × (Nat → Int32) × (Nat → Int32) × (Nat → Int32) × (Nat → Int32))) = some (rr, g_t_heard, g_t_heardHeir, g_t_heardOne, g_t_heardTwo, g_t_heardMore) := hf
        cases hf
        exact ret_i F hP hS dX7_hear_31
      · replace hf := (if_neg c9).symm.trans hf
        refine lv_iload_n hx hb dX7_hear_24 rfl (lv_at hl 2 rfl) ?_
        refine lv_iload_n hx hb dX7_hear_25 rfl (lv_at hl 3 rfl) ?_
        refine lv_icmp_ne (tgt := 32) hx hb dX7_hear_26 (by decide) (fun c10 => ?_) (fun c10 => ?_)
        · replace hf := (if_neg c10).symm.trans hf
          refine lv_aload_n hx hb dX7_hear_32 rfl (lv_at hl 0 rfl) ?_
          refine gf F hP in_X7_hear_X7 0 rfl rfl 7 (by decide) 1 rfl rfl dX7_hear_33 ?_
          refine lv_bipush (v := 6) hx hb dX7_hear_36 (by decide) ?_
          refine lv_icmp_ne (tgt := 44) hx hb dX7_hear_38 (by decide) (fun c11 => ?_) (fun c11 => ?_)
          · replace hf := (if_neg c11).symm.trans hf
            refine lv_aload_n hx hb dX7_hear_44 rfl (lv_at hl 0 rfl) ?_
            refine gf F hP in_X7_hear_X7 0 rfl rfl 8 (by decide) 2 rfl rfl dX7_hear_45 ?_
            refine lv_aload_n hx hb dX7_hear_48 rfl (lv_at hl 0 rfl) ?_
            refine gf F hP in_X7_hear_X7 0 rfl rfl 7 (by decide) 1 rfl rfl dX7_hear_49 ?_
            refine lv_iload_n hx hb dX7_hear_52 rfl (lv_at hl 1 rfl) ?_
            obtain ⟨g12, eg12, hf⟩ := bnd hf
            refine ast F hP hD hS 5 rfl eg12 dX7_hear_53 (w_X7 cI cB ad_t t_wills t_heirs t_kindOf t_worthOf t_thingOf t_changesOf t_changes t_heard g12 t_heardOne t_heardTwo t_heardMore t_pageLength t_page t_says t_dealt t_farOf t_endMany t_endMost t_endLeast t_endFew t_seedNow t_saved t_isKept t_keptWill t_keptChanges t_keptHeard t_keptWorth t_keptThing t_keptChangesOf t_keptHeir t_keptOne t_keptTwo t_keptMore t_h) rfl (fun H locs hP hD hS => ?_)
            refine lv_aload_n hx hb dX7_hear_54 rfl (lv_at hl 0 rfl) ?_
            refine gf F hP in_X7_hear_X7 0 rfl rfl 9 (by decide) 3 rfl rfl dX7_hear_55 ?_
            refine lv_aload_n hx hb dX7_hear_58 rfl (lv_at hl 0 rfl) ?_
            refine gf F hP in_X7_hear_X7 0 rfl rfl 7 (by decide) 1 rfl rfl dX7_hear_59 ?_
            refine lv_iload_n hx hb dX7_hear_62 rfl (lv_at hl 2 rfl) ?_
            obtain ⟨g13, eg13, hf⟩ := bnd hf
            refine ast F hP hD hS 6 rfl eg13 dX7_hear_63 (w_X7 cI cB ad_t t_wills t_heirs t_kindOf t_worthOf t_thingOf t_changesOf t_changes t_heard g12 g13 t_heardTwo t_heardMore t_pageLength t_page t_says t_dealt t_farOf t_endMany t_endMost t_endLeast t_endFew t_seedNow t_saved t_isKept t_keptWill t_keptChanges t_keptHeard t_keptWorth t_keptThing t_keptChangesOf t_keptHeir t_keptOne t_keptTwo t_keptMore t_h) rfl (fun H locs hP hD hS => ?_)
            refine lv_aload_n hx hb dX7_hear_64 rfl (lv_at hl 0 rfl) ?_
            refine gf F hP in_X7_hear_X7 0 rfl rfl 10 (by decide) 4 rfl rfl dX7_hear_65 ?_
            refine lv_aload_n hx hb dX7_hear_68 rfl (lv_at hl 0 rfl) ?_
            refine gf F hP in_X7_hear_X7 0 rfl rfl 7 (by decide) 1 rfl rfl dX7_hear_69 ?_
            refine lv_iload_n hx hb dX7_hear_72 rfl (lv_at hl 3 rfl) ?_
            obtain ⟨g14, eg14, hf⟩ := bnd hf
            refine ast F hP hD hS 7 rfl eg14 dX7_hear_73 (w_X7 cI cB ad_t t_wills t_heirs t_kindOf t_worthOf t_thingOf t_changesOf t_changes t_heard g12 g13 g14 t_heardMore t_pageLength t_page t_says t_dealt t_farOf t_endMany t_endMost t_endLeast t_endFew t_seedNow t_saved t_isKept t_keptWill t_keptChanges t_keptHeard t_keptWorth t_keptThing t_keptChangesOf t_keptHeir t_keptOne t_keptTwo t_keptMore t_h) rfl (fun H locs hP hD hS => ?_)
            refine lv_aload_n hx hb dX7_hear_74 rfl (lv_at hl 0 rfl) ?_
            refine gf F hP in_X7_hear_X7 0 rfl rfl 11 (by decide) 5 rfl rfl dX7_hear_75 ?_
            refine lv_aload_n hx hb dX7_hear_78 rfl (lv_at hl 0 rfl) ?_
            refine gf F hP in_X7_hear_X7 0 rfl rfl 7 (by decide) 1 rfl rfl dX7_hear_79 ?_
            refine lv_iload hx hb dX7_hear_82 (lv_at hl 4 rfl) ?_
            refine lv_if_eq (tgt := 91) hx hb dX7_hear_84 (by decide) (fun c15 => ?_) (fun c15 => ?_)
            · replace hf := (if_pos c15).symm.trans hf
              refine lv_iconst (v := 0) hx hb dX7_hear_91 (by decide) ?_
              exact b_X7_hear_92 F  0 t_heard t_heard g12 g13 g14 t_heardMore H locs ls hP hD hS (lv_sub hl [0] rfl) hf
            · replace hf := (if_neg c15).symm.trans hf
              refine lv_iconst (v := 1) hx hb dX7_hear_87 (by decide) ?_
              refine lv_goto (tgt := 92) hx hb dX7_hear_88 (by decide) ?_
              exact b_X7_hear_92 F  1 t_heard t_heard g12 g13 g14 t_heardMore H locs ls hP hD hS (lv_sub hl [0] rfl) hf
          · replace hf := (if_pos c11).symm.trans hf
            refine lv_bipush (v := (-104)) hx hb dX7_hear_41 (by decide) ?_
            replace hf : (some ((-104), t_heard, t_heardHeir, t_heardOne, t_heardTwo, t_heardMore) : Option (Int32 × Int32 × (Nat → Int32) × (Nat → Int32) × (Nat → Int32) × (Nat → Int32))) = some (rr, g_t_heard, g_t_heardHeir, g_t_heardOne, g_t_heardTwo, g_t_heardMore) := hf
            cases hf
            exact ret_i F hP hS dX7_hear_43
        · replace hf := (if_pos c10).symm.trans hf
          refine lv_bipush (v := (-101)) hx hb dX7_hear_29 (by decide) ?_
          replace hf : (some ((-101), t_heard, t_heardHeir, t_heardOne, t_heardTwo, t_heardMore) : Option (Int32 × Int32 × (Nat → Int32) × (Nat → Int32) × (Nat → Int32) × (Nat → Int32))) = some (rr, g_t_heard, g_t_heardHeir, g_t_heardOne, g_t_heardTwo, g_t_heardMore) := hf
          cases hf
          exact ret_i F hP hS dX7_hear_31

/-! X7_forget -/
def rm_X7_forget : Room := { frames := 0, cells := 0, slots := 0, locals := 0 }
theorem in_X7_forget_X7 : ∀ w ∈ u_ws RX7 TX7 35, w ∈ wsX7_forget := fun _ h => List.mem_cons_of_mem _ (List.mem_append_right _ (h))
theorem nd_X7_forget : yX7_forget.cls = RX7 ∧ yX7_forget.cls ≠ "java/lang/invoke/MethodHandle" ∧ yX7_forget.cls ≠ "java/lang/invoke/VarHandle" ∧ (parseMethodDescriptor yX7_forget.desc).map (fun d => d.parameters.length) = some 0 := by decide +kernel
def f_X7_forget (t_heard : Int32)  : Option (Int32 × Int32) := some (t_heard, 0)
set_option maxHeartbeats 4000000 in
set_option maxRecDepth 100000 in
theorem k_X7_forget (l : Launch) {D : va_G} {cI cB : ClassId} {kK kV : Nat → Nat} (ad_t : Nat → Nat) (t_wills : Int32) (t_heirs : Int32) (t_kindOf : Nat → Int32) (t_worthOf : Nat → Int32) (t_thingOf : Nat → Int32) (t_changesOf : Nat → Int32) (t_changes : Int32) (t_heard : Int32) (t_heardHeir : Nat → Int32) (t_heardOne : Nat → Int32) (t_heardTwo : Nat → Int32) (t_heardMore : Nat → Int32) (t_pageLength : Int32) (t_page : Nat → Int32) (t_says : Nat → Int32) (t_dealt : Nat → Int32) (t_farOf : Nat → Int32) (t_endMany : Int32) (t_endMost : Int32) (t_endLeast : Int32) (t_endFew : Int32) (t_seedNow : Int64) (t_saved : Nat → Int32) (t_isKept : Int32) (t_keptWill : Int32) (t_keptChanges : Int32) (t_keptHeard : Int32) (t_keptWorth : Nat → Int32) (t_keptThing : Nat → Int32) (t_keptChangesOf : Nat → Int32) (t_keptHeir : Nat → Int32) (t_keptOne : Nat → Int32) (t_keptTwo : Nat → Int32) (t_keptMore : Nat → Int32) (t_h : Int64)  {rr : Int32} {g_t_heard : Int32} (hf : f_X7_forget t_heard = some (rr, g_t_heard)) : Ct l yX7_forget wsX7_forget rm_X7_forget D cI cB kK kV [.ref (ad_t 0)] (w_X7 cI cB ad_t t_wills t_heirs t_kindOf t_worthOf t_thingOf t_changesOf t_changes t_heard t_heardHeir t_heardOne t_heardTwo t_heardMore t_pageLength t_page t_says t_dealt t_farOf t_endMany t_endMost t_endLeast t_endFew t_seedNow t_saved t_isKept t_keptWill t_keptChanges t_keptHeard t_keptWorth t_keptThing t_keptChangesOf t_keptHeir t_keptOne t_keptTwo t_keptMore t_h) (w_X7 cI cB ad_t t_wills t_heirs t_kindOf t_worthOf t_thingOf t_changesOf t_changes g_t_heard t_heardHeir t_heardOne t_heardTwo t_heardMore t_pageLength t_page t_says t_dealt t_farOf t_endMany t_endMost t_endLeast t_endFew t_seedNow t_saved t_isKept t_keptWill t_keptChanges t_keptHeard t_keptWorth t_keptThing t_keptChangesOf t_keptHeir t_keptOne t_keptTwo t_keptMore t_h) (some (.int rr)) := by
  refine Ct.of (cc := cX7_forget) (maxL := 2) (ret := (some .int)) (by decide) rfl (Nat.le_of_ble_eq_true rfl) rfl ?_
  intro p e s m below meth c A ls F hP hD hS hl
  have hl : lv_has ls 2 [(0, .ref (ad_t 0))] := hl
  obtain ⟨hx, hb, hml, hown, hts, hrt, hlocks, hK, hA, hZ⟩ := id F
  obtain ⟨H, hH⟩ : ∃ H, H = s.heap := ⟨_, rfl⟩
  obtain ⟨locs, hLo⟩ : ∃ q : List Loc, q = [] := ⟨_, rfl⟩
  refine (?_ : W p l e rm_X7_forget s m _ below meth c s.heap [] 0 0 _ _)
  rw [← hH, ← hLo]
  rw [← hH] at hP
  have hS : va_S A s.heap H locs := by rw [hH, hLo]; exact hS
  refine lv_aload_n hx hb dX7_forget_0 rfl (lv_at hl 0 rfl) ?_
  refine gf F hP in_X7_forget_X7 0 rfl rfl 7 (by decide) 1 rfl rfl dX7_forget_1 ?_
  refine lv_istore_n (lv' := [(1, .int t_heard), (0, .ref (ad_t 0))]) hx hb dX7_forget_4 rfl hl (by decide) rfl (fun ls hl => ?_)
  refine lv_aload_n hx hb dX7_forget_5 rfl (lv_at hl 1 rfl) ?_
  refine lv_iconst (v := 0) hx hb dX7_forget_6 (by decide) ?_
  refine pf F hP hD hS in_X7_forget_X7 tyX7 tyX7_ok nmX7 0 rfl rfl 7 (by decide) 1 rfl rfl rfl rfl (Nat.le_of_ble_eq_true rfl) dX7_forget_7 (w_X7 cI cB ad_t t_wills t_heirs t_kindOf t_worthOf t_thingOf t_changesOf t_changes 0 t_heardHeir t_heardOne t_heardTwo t_heardMore t_pageLength t_page t_says t_dealt t_farOf t_endMany t_endMost t_endLeast t_endFew t_seedNow t_saved t_isKept t_keptWill t_keptChanges t_keptHeard t_keptWorth t_keptThing t_keptChangesOf t_keptHeir t_keptOne t_keptTwo t_keptMore t_h) rfl (fun H locs hP hD hS => ?_)
  refine lv_iload_n hx hb dX7_forget_10 rfl (lv_at hl 0 rfl) ?_
  replace hf : (some (t_heard, 0) : Option (Int32 × Int32)) = some (rr, g_t_heard) := hf
  cases hf
  exact ret_i F hP hS dX7_forget_11

/-! X7_worthIf -/
def rm_X7_worthIf : Room := { frames := 0, cells := 0, slots := 0, locals := 0 }
theorem in_X7_worthIf_X7 : ∀ w ∈ u_ws RX7 TX7 35, w ∈ wsX7_worthIf := fun _ h => List.mem_cons_of_mem _ (List.mem_append_right _ (h))
theorem nd_X7_worthIf : yX7_worthIf.cls = RX7 ∧ yX7_worthIf.cls ≠ "java/lang/invoke/MethodHandle" ∧ yX7_worthIf.cls ≠ "java/lang/invoke/VarHandle" ∧ (parseMethodDescriptor yX7_worthIf.desc).map (fun d => d.parameters.length) = some 4 := by decide +kernel
def f_X7_worthIf (t_worthOf : Nat → Int32) (x1 : Int32) (x2 : Int32) (x3 : Int32) (x4 : Int32) : Option (Int32) := (if x2 = x3 then some x4 else (rd t_worthOf 16 ((4 * x1) + x2)).bind (fun v2 => some v2))
set_option maxHeartbeats 4000000 in
set_option maxRecDepth 100000 in
theorem k_X7_worthIf (l : Launch) {D : va_G} {cI cB : ClassId} {kK kV : Nat → Nat} (ad_t : Nat → Nat) (t_wills : Int32) (t_heirs : Int32) (t_kindOf : Nat → Int32) (t_worthOf : Nat → Int32) (t_thingOf : Nat → Int32) (t_changesOf : Nat → Int32) (t_changes : Int32) (t_heard : Int32) (t_heardHeir : Nat → Int32) (t_heardOne : Nat → Int32) (t_heardTwo : Nat → Int32) (t_heardMore : Nat → Int32) (t_pageLength : Int32) (t_page : Nat → Int32) (t_says : Nat → Int32) (t_dealt : Nat → Int32) (t_farOf : Nat → Int32) (t_endMany : Int32) (t_endMost : Int32) (t_endLeast : Int32) (t_endFew : Int32) (t_seedNow : Int64) (t_saved : Nat → Int32) (t_isKept : Int32) (t_keptWill : Int32) (t_keptChanges : Int32) (t_keptHeard : Int32) (t_keptWorth : Nat → Int32) (t_keptThing : Nat → Int32) (t_keptChangesOf : Nat → Int32) (t_keptHeir : Nat → Int32) (t_keptOne : Nat → Int32) (t_keptTwo : Nat → Int32) (t_keptMore : Nat → Int32) (t_h : Int64) (x1 : Int32) (x2 : Int32) (x3 : Int32) (x4 : Int32) {rr : Int32}  (hf : f_X7_worthIf t_worthOf x1 x2 x3 x4 = some rr) : Ct l yX7_worthIf wsX7_worthIf rm_X7_worthIf D cI cB kK kV [.ref (ad_t 0), .int x1, .int x2, .int x3, .int x4] (w_X7 cI cB ad_t t_wills t_heirs t_kindOf t_worthOf t_thingOf t_changesOf t_changes t_heard t_heardHeir t_heardOne t_heardTwo t_heardMore t_pageLength t_page t_says t_dealt t_farOf t_endMany t_endMost t_endLeast t_endFew t_seedNow t_saved t_isKept t_keptWill t_keptChanges t_keptHeard t_keptWorth t_keptThing t_keptChangesOf t_keptHeir t_keptOne t_keptTwo t_keptMore t_h) (w_X7 cI cB ad_t t_wills t_heirs t_kindOf t_worthOf t_thingOf t_changesOf t_changes t_heard t_heardHeir t_heardOne t_heardTwo t_heardMore t_pageLength t_page t_says t_dealt t_farOf t_endMany t_endMost t_endLeast t_endFew t_seedNow t_saved t_isKept t_keptWill t_keptChanges t_keptHeard t_keptWorth t_keptThing t_keptChangesOf t_keptHeir t_keptOne t_keptTwo t_keptMore t_h) (some (.int rr)) := by
  refine Ct.of (cc := cX7_worthIf) (maxL := 5) (ret := (some .int)) (by decide) rfl (Nat.le_of_ble_eq_true rfl) rfl ?_
  intro p e s m below meth c A ls F hP hD hS hl
  have hl : lv_has ls 5 [(0, .ref (ad_t 0)), (1, .int x1), (2, .int x2), (3, .int x3), (4, .int x4)] := hl
  obtain ⟨hx, hb, hml, hown, hts, hrt, hlocks, hK, hA, hZ⟩ := id F
  obtain ⟨H, hH⟩ : ∃ H, H = s.heap := ⟨_, rfl⟩
  obtain ⟨locs, hLo⟩ : ∃ q : List Loc, q = [] := ⟨_, rfl⟩
  refine (?_ : W p l e rm_X7_worthIf s m _ below meth c s.heap [] 0 0 _ _)
  rw [← hH, ← hLo]
  rw [← hH] at hP
  have hS : va_S A s.heap H locs := by rw [hH, hLo]; exact hS
  refine lv_iload_n hx hb dX7_worthIf_0 rfl (lv_at hl 2 rfl) ?_
  refine lv_iload_n hx hb dX7_worthIf_1 rfl (lv_at hl 3 rfl) ?_
  refine lv_icmp_ne (tgt := 10) hx hb dX7_worthIf_2 (by decide) (fun c1 => ?_) (fun c1 => ?_)
  · replace hf := (if_neg c1).symm.trans hf
    refine lv_aload_n hx hb dX7_worthIf_10 rfl (lv_at hl 0 rfl) ?_
    refine gf F hP in_X7_worthIf_X7 0 rfl rfl 3 (by decide) 1 rfl rfl dX7_worthIf_11 ?_
    refine lv_iconst (v := 4) hx hb dX7_worthIf_14 (by decide) ?_
    refine lv_iload_n hx hb dX7_worthIf_15 rfl (lv_at hl 1 rfl) ?_
    refine lv_imul hx hb dX7_worthIf_16 ?_
    refine lv_iload_n hx hb dX7_worthIf_17 rfl (lv_at hl 2 rfl) ?_
    refine lv_iadd hx hb dX7_worthIf_18 ?_
    obtain ⟨v2, ev2, hf⟩ := bnd hf
    refine ald F hP 2 rfl ev2 dX7_worthIf_19 ?_
    replace hf : (some v2 : Option (Int32)) = some rr := hf
    cases hf
    exact ret_i F hP hS dX7_worthIf_20
  · replace hf := (if_pos c1).symm.trans hf
    refine lv_iload hx hb dX7_worthIf_5 (lv_at hl 4 rfl) ?_
    refine lv_goto (tgt := 20) hx hb dX7_worthIf_7 (by decide) ?_
    replace hf : (some x4 : Option (Int32)) = some rr := hf
    cases hf
    exact ret_i F hP hS dX7_worthIf_20

/-! X7_couldBe -/
def rm_X7_couldBe : Room := { frames := 1, cells := 0, slots := 0, locals := 24 }
theorem in_X7_couldBe_X7 : ∀ w ∈ u_ws RX7 TX7 35, w ∈ wsX7_couldBe := fun _ h => List.mem_cons_of_mem _ (List.mem_append_right _ (h))
theorem nd_X7_couldBe : yX7_couldBe.cls = RX7 ∧ yX7_couldBe.cls ≠ "java/lang/invoke/MethodHandle" ∧ yX7_couldBe.cls ≠ "java/lang/invoke/VarHandle" ∧ (parseMethodDescriptor yX7_couldBe.desc).map (fun d => d.parameters.length) = some 3 := by decide +kernel
def f_X7_couldBe_95 (t_worthOf : Nat → Int32) (t_heard : Int32) (t_heardHeir : Nat → Int32) (t_heardOne : Nat → Int32) (t_heardTwo : Nat → Int32) (t_heardMore : Nat → Int32) (back_6 : Int32 → Int32 → Int32 → Int32 → Int32 → Option (Int32)) (x1 : Int32) (x2 : Int32) (x3 : Int32) (x5 : Int32) (k0 : Int32) : Option (Int32) := back_6 x1 x2 x3 k0 (x5 + 1)
def f_X7_couldBe_94 (t_worthOf : Nat → Int32) (t_heard : Int32) (t_heardHeir : Nat → Int32) (t_heardOne : Nat → Int32) (t_heardTwo : Nat → Int32) (t_heardMore : Nat → Int32) (back_6 : Int32 → Int32 → Int32 → Int32 → Int32 → Option (Int32)) (x1 : Int32) (x2 : Int32) (x3 : Int32) (x5 : Int32) : Option (Int32) := f_X7_couldBe_95 t_worthOf t_heard t_heardHeir t_heardOne t_heardTwo t_heardMore back_6 x1 x2 x3 x5 0
def f_X7_couldBe_90 (t_worthOf : Nat → Int32) (t_heard : Int32) (t_heardHeir : Nat → Int32) (t_heardOne : Nat → Int32) (t_heardTwo : Nat → Int32) (t_heardMore : Nat → Int32) (back_6 : Int32 → Int32 → Int32 → Int32 → Int32 → Option (Int32)) (x1 : Int32) (x2 : Int32) (x3 : Int32) (x5 : Int32) : Option (Int32) := f_X7_couldBe_95 t_worthOf t_heard t_heardHeir t_heardOne t_heardTwo t_heardMore back_6 x1 x2 x3 x5 1
def f_X7_couldBe_87 (t_worthOf : Nat → Int32) (t_heard : Int32) (t_heardHeir : Nat → Int32) (t_heardOne : Nat → Int32) (t_heardTwo : Nat → Int32) (t_heardMore : Nat → Int32) (back_6 : Int32 → Int32 → Int32 → Int32 → Int32 → Option (Int32)) (x1 : Int32) (x2 : Int32) (x3 : Int32) (x5 : Int32) (k0 : Int32) (k1 : Int32) : Option (Int32) := (if k1 = k0 then f_X7_couldBe_90 t_worthOf t_heard t_heardHeir t_heardOne t_heardTwo t_heardMore back_6 x1 x2 x3 x5 else f_X7_couldBe_94 t_worthOf t_heard t_heardHeir t_heardOne t_heardTwo t_heardMore back_6 x1 x2 x3 x5)
def f_X7_couldBe_51 (t_worthOf : Nat → Int32) (t_heard : Int32) (t_heardHeir : Nat → Int32) (t_heardOne : Nat → Int32) (t_heardTwo : Nat → Int32) (t_heardMore : Nat → Int32) (back_6 : Int32 → Int32 → Int32 → Int32 → Int32 → Option (Int32)) (x1 : Int32) (x2 : Int32) (x3 : Int32) (x4 : Int32) (x5 : Int32) (k0 : Int32) : Option (Int32) := (if x4 = 0 then f_X7_couldBe_94 t_worthOf t_heard t_heardHeir t_heardOne t_heardTwo t_heardMore back_6 x1 x2 x3 x5 else (rd t_heardHeir 6 x5).bind (fun v2 => (if v2 = x1 then (rd t_heardMore 6 x5).bind (fun v4 => (if v4 = 1 then f_X7_couldBe_87 t_worthOf t_heard t_heardHeir t_heardOne t_heardTwo t_heardMore back_6 x1 x2 x3 x5 1 k0 else f_X7_couldBe_87 t_worthOf t_heard t_heardHeir t_heardOne t_heardTwo t_heardMore back_6 x1 x2 x3 x5 0 k0)) else f_X7_couldBe_90 t_worthOf t_heard t_heardHeir t_heardOne t_heardTwo t_heardMore back_6 x1 x2 x3 x5)))
def f_X7_couldBe_6 (t_worthOf : Nat → Int32) (t_heard : Int32) (t_heardHeir : Nat → Int32) (t_heardOne : Nat → Int32) (t_heardTwo : Nat → Int32) (t_heardMore : Nat → Int32)  : Nat → Int32 → Int32 → Int32 → Int32 → Int32 → Option (Int32)
  | 0, _, _, _, _, _ => none
  | n + 1, x1, x2, x3, x4, x5 => (if t_heard ≤ x5 then (bz x4).bind (fun b2 => some b2) else (rd t_heardOne 6 x5).bind (fun v3 => (f_X7_worthIf t_worthOf x1 v3 x2 x3).bind (fun v4 => (rd t_heardTwo 6 x5).bind (fun v6 => (f_X7_worthIf t_worthOf x1 v6 x2 x3).bind (fun v7 => (if v4 ≤ v7 then f_X7_couldBe_51 t_worthOf t_heard t_heardHeir t_heardOne t_heardTwo t_heardMore (f_X7_couldBe_6 t_worthOf t_heard t_heardHeir t_heardOne t_heardTwo t_heardMore  n) x1 x2 x3 x4 x5 0 else f_X7_couldBe_51 t_worthOf t_heard t_heardHeir t_heardOne t_heardTwo t_heardMore (f_X7_couldBe_6 t_worthOf t_heard t_heardHeir t_heardOne t_heardTwo t_heardMore  n) x1 x2 x3 x4 x5 1))))))
def f_X7_couldBe (t_worthOf : Nat → Int32) (t_heard : Int32) (t_heardHeir : Nat → Int32) (t_heardOne : Nat → Int32) (t_heardTwo : Nat → Int32) (t_heardMore : Nat → Int32) (x1 : Int32) (x2 : Int32) (x3 : Int32) : Option (Int32) := f_X7_couldBe_6 t_worthOf t_heard t_heardHeir t_heardOne t_heardTwo t_heardMore 300 x1 x2 x3 1 0
set_option maxHeartbeats 4000000 in
set_option maxRecDepth 100000 in
theorem b_X7_couldBe_95 {p : Program} {l : Launch} {e : Env} {s : State} {m : MethodId} {args : Array Value} {below : List Frame} {meth : Method} {c : Code} {D : va_G} {cI cB : ClassId} {kK kV : Nat → Nat} {A : Nat → Prop} (F : Fx p m c s meth args cX7_couldBe 7 RX7 wsX7_couldBe (some .boolean) D cI cB kK kV A) {ad_t : Nat → Nat} {t_wills : Int32} {t_heirs : Int32} {t_kindOf : Nat → Int32} {t_worthOf : Nat → Int32} {t_thingOf : Nat → Int32} {t_changesOf : Nat → Int32} {t_changes : Int32} {t_heard : Int32} {t_heardHeir : Nat → Int32} {t_heardOne : Nat → Int32} {t_heardTwo : Nat → Int32} {t_heardMore : Nat → Int32} {t_pageLength : Int32} {t_page : Nat → Int32} {t_says : Nat → Int32} {t_dealt : Nat → Int32} {t_farOf : Nat → Int32} {t_endMany : Int32} {t_endMost : Int32} {t_endLeast : Int32} {t_endFew : Int32} {t_seedNow : Int64} {t_saved : Nat → Int32} {t_isKept : Int32} {t_keptWill : Int32} {t_keptChanges : Int32} {t_keptHeard : Int32} {t_keptWorth : Nat → Int32} {t_keptThing : Nat → Int32} {t_keptChangesOf : Nat → Int32} {t_keptHeir : Nat → Int32} {t_keptOne : Nat → Int32} {t_keptTwo : Nat → Int32} {t_keptMore : Nat → Int32} {t_h : Int64} {rr : Int32}  (back_6 : Int32 → Int32 → Int32 → Int32 → Int32 → Option (Int32)) (hb_6 : ∀ (x1 : Int32) (x2 : Int32) (x3 : Int32) (x4 : Int32) (x5 : Int32) (H : Heap) (locs : List Loc) (ls : Array Slot), va_P D vwCl (w_X7 cI cB ad_t t_wills t_heirs t_kindOf t_worthOf t_thingOf t_changesOf t_changes t_heard t_heardHeir t_heardOne t_heardTwo t_heardMore t_pageLength t_page t_says t_dealt t_farOf t_endMany t_endMost t_endLeast t_endFew t_seedNow t_saved t_isKept t_keptWill t_keptChanges t_keptHeard t_keptWorth t_keptThing t_keptChangesOf t_keptHeir t_keptOne t_keptTwo t_keptMore t_h) H → va_D A (w_X7 cI cB ad_t t_wills t_heirs t_kindOf t_worthOf t_thingOf t_changesOf t_changes t_heard t_heardHeir t_heardOne t_heardTwo t_heardMore t_pageLength t_page t_says t_dealt t_farOf t_endMany t_endMost t_endLeast t_endFew t_seedNow t_saved t_isKept t_keptWill t_keptChanges t_keptHeard t_keptWorth t_keptThing t_keptChangesOf t_keptHeir t_keptOne t_keptTwo t_keptMore t_h) → va_S A s.heap H locs → lv_has ls 7 [(0, .ref (ad_t 0)), (1, .int x1), (2, .int x2), (3, .int x3), (4, .int x4), (5, .int x5)] → back_6 x1 x2 x3 x4 x5 = some rr → W p l e rm_X7_couldBe s m args below meth c H locs 0 0 (Zq D below args s A (w_X7 cI cB ad_t t_wills t_heirs t_kindOf t_worthOf t_thingOf t_changesOf t_changes t_heard t_heardHeir t_heardOne t_heardTwo t_heardMore t_pageLength t_page t_says t_dealt t_farOf t_endMany t_endMost t_endLeast t_endFew t_seedNow t_saved t_isKept t_keptWill t_keptChanges t_keptHeard t_keptWorth t_keptThing t_keptChangesOf t_keptHeir t_keptOne t_keptTwo t_keptMore t_h) (some (.int rr))) (F0 m 6 ls [])) : ∀ (x1 : Int32) (x2 : Int32) (x3 : Int32) (x5 : Int32) (k0 : Int32) (H : Heap) (locs : List Loc) (ls : Array Slot), va_P D vwCl (w_X7 cI cB ad_t t_wills t_heirs t_kindOf t_worthOf t_thingOf t_changesOf t_changes t_heard t_heardHeir t_heardOne t_heardTwo t_heardMore t_pageLength t_page t_says t_dealt t_farOf t_endMany t_endMost t_endLeast t_endFew t_seedNow t_saved t_isKept t_keptWill t_keptChanges t_keptHeard t_keptWorth t_keptThing t_keptChangesOf t_keptHeir t_keptOne t_keptTwo t_keptMore t_h) H → va_D A (w_X7 cI cB ad_t t_wills t_heirs t_kindOf t_worthOf t_thingOf t_changesOf t_changes t_heard t_heardHeir t_heardOne t_heardTwo t_heardMore t_pageLength t_page t_says t_dealt t_farOf t_endMany t_endMost t_endLeast t_endFew t_seedNow t_saved t_isKept t_keptWill t_keptChanges t_keptHeard t_keptWorth t_keptThing t_keptChangesOf t_keptHeir t_keptOne t_keptTwo t_keptMore t_h) → va_S A s.heap H locs → lv_has ls 7 [(0, .ref (ad_t 0)), (1, .int x1), (2, .int x2), (3, .int x3), (5, .int x5)] → f_X7_couldBe_95 t_worthOf t_heard t_heardHeir t_heardOne t_heardTwo t_heardMore back_6 x1 x2 x3 x5 k0 = some rr → W p l e rm_X7_couldBe s m args below meth c H locs 0 0 (Zq D below args s A (w_X7 cI cB ad_t t_wills t_heirs t_kindOf t_worthOf t_thingOf t_changesOf t_changes t_heard t_heardHeir t_heardOne t_heardTwo t_heardMore t_pageLength t_page t_says t_dealt t_farOf t_endMany t_endMost t_endLeast t_endFew t_seedNow t_saved t_isKept t_keptWill t_keptChanges t_keptHeard t_keptWorth t_keptThing t_keptChangesOf t_keptHeir t_keptOne t_keptTwo t_keptMore t_h) (some (.int rr))) (F0 m 95 ls [.int k0]) := by
  obtain ⟨hx, hb, hml, hown, hts, hrt, hlocks, hK, hA, hZ⟩ := id F
  intro x1 x2 x3 x5 k0 H locs ls hP hD hS hl hf
  refine lv_istore (lv' := [(4, .int k0), (0, .ref (ad_t 0)), (1, .int x1), (2, .int x2), (3, .int x3), (5, .int x5)]) hx hb dX7_couldBe_95 hl (by decide) rfl (fun ls hl => ?_)
  refine lv_iinc (v := (x5 + 1)) (lv' := [(5, .int (x5 + 1)), (4, .int k0), (0, .ref (ad_t 0)), (1, .int x1), (2, .int x2), (3, .int x3)]) hx hb dX7_couldBe_97 hl (k := 5) rfl rfl (by decide) rfl (fun ls hl => ?_)
  refine lv_goto (tgt := 6) hx hb dX7_couldBe_100 (by decide) ?_
  exact hb_6 x1 x2 x3 k0 (x5 + 1) H locs ls hP hD hS (lv_sub hl [2, 3, 4, 5, 1, 0] rfl) hf

set_option maxHeartbeats 4000000 in
set_option maxRecDepth 100000 in
theorem b_X7_couldBe_94 {p : Program} {l : Launch} {e : Env} {s : State} {m : MethodId} {args : Array Value} {below : List Frame} {meth : Method} {c : Code} {D : va_G} {cI cB : ClassId} {kK kV : Nat → Nat} {A : Nat → Prop} (F : Fx p m c s meth args cX7_couldBe 7 RX7 wsX7_couldBe (some .boolean) D cI cB kK kV A) {ad_t : Nat → Nat} {t_wills : Int32} {t_heirs : Int32} {t_kindOf : Nat → Int32} {t_worthOf : Nat → Int32} {t_thingOf : Nat → Int32} {t_changesOf : Nat → Int32} {t_changes : Int32} {t_heard : Int32} {t_heardHeir : Nat → Int32} {t_heardOne : Nat → Int32} {t_heardTwo : Nat → Int32} {t_heardMore : Nat → Int32} {t_pageLength : Int32} {t_page : Nat → Int32} {t_says : Nat → Int32} {t_dealt : Nat → Int32} {t_farOf : Nat → Int32} {t_endMany : Int32} {t_endMost : Int32} {t_endLeast : Int32} {t_endFew : Int32} {t_seedNow : Int64} {t_saved : Nat → Int32} {t_isKept : Int32} {t_keptWill : Int32} {t_keptChanges : Int32} {t_keptHeard : Int32} {t_keptWorth : Nat → Int32} {t_keptThing : Nat → Int32} {t_keptChangesOf : Nat → Int32} {t_keptHeir : Nat → Int32} {t_keptOne : Nat → Int32} {t_keptTwo : Nat → Int32} {t_keptMore : Nat → Int32} {t_h : Int64} {rr : Int32}  (back_6 : Int32 → Int32 → Int32 → Int32 → Int32 → Option (Int32)) (hb_6 : ∀ (x1 : Int32) (x2 : Int32) (x3 : Int32) (x4 : Int32) (x5 : Int32) (H : Heap) (locs : List Loc) (ls : Array Slot), va_P D vwCl (w_X7 cI cB ad_t t_wills t_heirs t_kindOf t_worthOf t_thingOf t_changesOf t_changes t_heard t_heardHeir t_heardOne t_heardTwo t_heardMore t_pageLength t_page t_says t_dealt t_farOf t_endMany t_endMost t_endLeast t_endFew t_seedNow t_saved t_isKept t_keptWill t_keptChanges t_keptHeard t_keptWorth t_keptThing t_keptChangesOf t_keptHeir t_keptOne t_keptTwo t_keptMore t_h) H → va_D A (w_X7 cI cB ad_t t_wills t_heirs t_kindOf t_worthOf t_thingOf t_changesOf t_changes t_heard t_heardHeir t_heardOne t_heardTwo t_heardMore t_pageLength t_page t_says t_dealt t_farOf t_endMany t_endMost t_endLeast t_endFew t_seedNow t_saved t_isKept t_keptWill t_keptChanges t_keptHeard t_keptWorth t_keptThing t_keptChangesOf t_keptHeir t_keptOne t_keptTwo t_keptMore t_h) → va_S A s.heap H locs → lv_has ls 7 [(0, .ref (ad_t 0)), (1, .int x1), (2, .int x2), (3, .int x3), (4, .int x4), (5, .int x5)] → back_6 x1 x2 x3 x4 x5 = some rr → W p l e rm_X7_couldBe s m args below meth c H locs 0 0 (Zq D below args s A (w_X7 cI cB ad_t t_wills t_heirs t_kindOf t_worthOf t_thingOf t_changesOf t_changes t_heard t_heardHeir t_heardOne t_heardTwo t_heardMore t_pageLength t_page t_says t_dealt t_farOf t_endMany t_endMost t_endLeast t_endFew t_seedNow t_saved t_isKept t_keptWill t_keptChanges t_keptHeard t_keptWorth t_keptThing t_keptChangesOf t_keptHeir t_keptOne t_keptTwo t_keptMore t_h) (some (.int rr))) (F0 m 6 ls [])) : ∀ (x1 : Int32) (x2 : Int32) (x3 : Int32) (x5 : Int32) (H : Heap) (locs : List Loc) (ls : Array Slot), va_P D vwCl (w_X7 cI cB ad_t t_wills t_heirs t_kindOf t_worthOf t_thingOf t_changesOf t_changes t_heard t_heardHeir t_heardOne t_heardTwo t_heardMore t_pageLength t_page t_says t_dealt t_farOf t_endMany t_endMost t_endLeast t_endFew t_seedNow t_saved t_isKept t_keptWill t_keptChanges t_keptHeard t_keptWorth t_keptThing t_keptChangesOf t_keptHeir t_keptOne t_keptTwo t_keptMore t_h) H → va_D A (w_X7 cI cB ad_t t_wills t_heirs t_kindOf t_worthOf t_thingOf t_changesOf t_changes t_heard t_heardHeir t_heardOne t_heardTwo t_heardMore t_pageLength t_page t_says t_dealt t_farOf t_endMany t_endMost t_endLeast t_endFew t_seedNow t_saved t_isKept t_keptWill t_keptChanges t_keptHeard t_keptWorth t_keptThing t_keptChangesOf t_keptHeir t_keptOne t_keptTwo t_keptMore t_h) → va_S A s.heap H locs → lv_has ls 7 [(0, .ref (ad_t 0)), (1, .int x1), (2, .int x2), (3, .int x3), (5, .int x5)] → f_X7_couldBe_94 t_worthOf t_heard t_heardHeir t_heardOne t_heardTwo t_heardMore back_6 x1 x2 x3 x5 = some rr → W p l e rm_X7_couldBe s m args below meth c H locs 0 0 (Zq D below args s A (w_X7 cI cB ad_t t_wills t_heirs t_kindOf t_worthOf t_thingOf t_changesOf t_changes t_heard t_heardHeir t_heardOne t_heardTwo t_heardMore t_pageLength t_page t_says t_dealt t_farOf t_endMany t_endMost t_endLeast t_endFew t_seedNow t_saved t_isKept t_keptWill t_keptChanges t_keptHeard t_keptWorth t_keptThing t_keptChangesOf t_keptHeir t_keptOne t_keptTwo t_keptMore t_h) (some (.int rr))) (F0 m 94 ls []) := by
  obtain ⟨hx, hb, hml, hown, hts, hrt, hlocks, hK, hA, hZ⟩ := id F
  intro x1 x2 x3 x5 H locs ls hP hD hS hl hf
  refine lv_iconst (v := 0) hx hb dX7_couldBe_94 (by decide) ?_
  exact b_X7_couldBe_95 F back_6 hb_6 x1 x2 x3 x5 0 H locs ls hP hD hS (lv_sub hl [0, 1, 2, 3, 4] rfl) hf

set_option maxHeartbeats 4000000 in
set_option maxRecDepth 100000 in
theorem b_X7_couldBe_90 {p : Program} {l : Launch} {e : Env} {s : State} {m : MethodId} {args : Array Value} {below : List Frame} {meth : Method} {c : Code} {D : va_G} {cI cB : ClassId} {kK kV : Nat → Nat} {A : Nat → Prop} (F : Fx p m c s meth args cX7_couldBe 7 RX7 wsX7_couldBe (some .boolean) D cI cB kK kV A) {ad_t : Nat → Nat} {t_wills : Int32} {t_heirs : Int32} {t_kindOf : Nat → Int32} {t_worthOf : Nat → Int32} {t_thingOf : Nat → Int32} {t_changesOf : Nat → Int32} {t_changes : Int32} {t_heard : Int32} {t_heardHeir : Nat → Int32} {t_heardOne : Nat → Int32} {t_heardTwo : Nat → Int32} {t_heardMore : Nat → Int32} {t_pageLength : Int32} {t_page : Nat → Int32} {t_says : Nat → Int32} {t_dealt : Nat → Int32} {t_farOf : Nat → Int32} {t_endMany : Int32} {t_endMost : Int32} {t_endLeast : Int32} {t_endFew : Int32} {t_seedNow : Int64} {t_saved : Nat → Int32} {t_isKept : Int32} {t_keptWill : Int32} {t_keptChanges : Int32} {t_keptHeard : Int32} {t_keptWorth : Nat → Int32} {t_keptThing : Nat → Int32} {t_keptChangesOf : Nat → Int32} {t_keptHeir : Nat → Int32} {t_keptOne : Nat → Int32} {t_keptTwo : Nat → Int32} {t_keptMore : Nat → Int32} {t_h : Int64} {rr : Int32}  (back_6 : Int32 → Int32 → Int32 → Int32 → Int32 → Option (Int32)) (hb_6 : ∀ (x1 : Int32) (x2 : Int32) (x3 : Int32) (x4 : Int32) (x5 : Int32) (H : Heap) (locs : List Loc) (ls : Array Slot), va_P D vwCl (w_X7 cI cB ad_t t_wills t_heirs t_kindOf t_worthOf t_thingOf t_changesOf t_changes t_heard t_heardHeir t_heardOne t_heardTwo t_heardMore t_pageLength t_page t_says t_dealt t_farOf t_endMany t_endMost t_endLeast t_endFew t_seedNow t_saved t_isKept t_keptWill t_keptChanges t_keptHeard t_keptWorth t_keptThing t_keptChangesOf t_keptHeir t_keptOne t_keptTwo t_keptMore t_h) H → va_D A (w_X7 cI cB ad_t t_wills t_heirs t_kindOf t_worthOf t_thingOf t_changesOf t_changes t_heard t_heardHeir t_heardOne t_heardTwo t_heardMore t_pageLength t_page t_says t_dealt t_farOf t_endMany t_endMost t_endLeast t_endFew t_seedNow t_saved t_isKept t_keptWill t_keptChanges t_keptHeard t_keptWorth t_keptThing t_keptChangesOf t_keptHeir t_keptOne t_keptTwo t_keptMore t_h) → va_S A s.heap H locs → lv_has ls 7 [(0, .ref (ad_t 0)), (1, .int x1), (2, .int x2), (3, .int x3), (4, .int x4), (5, .int x5)] → back_6 x1 x2 x3 x4 x5 = some rr → W p l e rm_X7_couldBe s m args below meth c H locs 0 0 (Zq D below args s A (w_X7 cI cB ad_t t_wills t_heirs t_kindOf t_worthOf t_thingOf t_changesOf t_changes t_heard t_heardHeir t_heardOne t_heardTwo t_heardMore t_pageLength t_page t_says t_dealt t_farOf t_endMany t_endMost t_endLeast t_endFew t_seedNow t_saved t_isKept t_keptWill t_keptChanges t_keptHeard t_keptWorth t_keptThing t_keptChangesOf t_keptHeir t_keptOne t_keptTwo t_keptMore t_h) (some (.int rr))) (F0 m 6 ls [])) : ∀ (x1 : Int32) (x2 : Int32) (x3 : Int32) (x5 : Int32) (H : Heap) (locs : List Loc) (ls : Array Slot), va_P D vwCl (w_X7 cI cB ad_t t_wills t_heirs t_kindOf t_worthOf t_thingOf t_changesOf t_changes t_heard t_heardHeir t_heardOne t_heardTwo t_heardMore t_pageLength t_page t_says t_dealt t_farOf t_endMany t_endMost t_endLeast t_endFew t_seedNow t_saved t_isKept t_keptWill t_keptChanges t_keptHeard t_keptWorth t_keptThing t_keptChangesOf t_keptHeir t_keptOne t_keptTwo t_keptMore t_h) H → va_D A (w_X7 cI cB ad_t t_wills t_heirs t_kindOf t_worthOf t_thingOf t_changesOf t_changes t_heard t_heardHeir t_heardOne t_heardTwo t_heardMore t_pageLength t_page t_says t_dealt t_farOf t_endMany t_endMost t_endLeast t_endFew t_seedNow t_saved t_isKept t_keptWill t_keptChanges t_keptHeard t_keptWorth t_keptThing t_keptChangesOf t_keptHeir t_keptOne t_keptTwo t_keptMore t_h) → va_S A s.heap H locs → lv_has ls 7 [(0, .ref (ad_t 0)), (1, .int x1), (2, .int x2), (3, .int x3), (5, .int x5)] → f_X7_couldBe_90 t_worthOf t_heard t_heardHeir t_heardOne t_heardTwo t_heardMore back_6 x1 x2 x3 x5 = some rr → W p l e rm_X7_couldBe s m args below meth c H locs 0 0 (Zq D below args s A (w_X7 cI cB ad_t t_wills t_heirs t_kindOf t_worthOf t_thingOf t_changesOf t_changes t_heard t_heardHeir t_heardOne t_heardTwo t_heardMore t_pageLength t_page t_says t_dealt t_farOf t_endMany t_endMost t_endLeast t_endFew t_seedNow t_saved t_isKept t_keptWill t_keptChanges t_keptHeard t_keptWorth t_keptThing t_keptChangesOf t_keptHeir t_keptOne t_keptTwo t_keptMore t_h) (some (.int rr))) (F0 m 90 ls []) := by
  obtain ⟨hx, hb, hml, hown, hts, hrt, hlocks, hK, hA, hZ⟩ := id F
  intro x1 x2 x3 x5 H locs ls hP hD hS hl hf
  refine lv_iconst (v := 1) hx hb dX7_couldBe_90 (by decide) ?_
  refine lv_goto (tgt := 95) hx hb dX7_couldBe_91 (by decide) ?_
  exact b_X7_couldBe_95 F back_6 hb_6 x1 x2 x3 x5 1 H locs ls hP hD hS (lv_sub hl [0, 1, 2, 3, 4] rfl) hf

set_option maxHeartbeats 4000000 in
set_option maxRecDepth 100000 in
theorem b_X7_couldBe_87 {p : Program} {l : Launch} {e : Env} {s : State} {m : MethodId} {args : Array Value} {below : List Frame} {meth : Method} {c : Code} {D : va_G} {cI cB : ClassId} {kK kV : Nat → Nat} {A : Nat → Prop} (F : Fx p m c s meth args cX7_couldBe 7 RX7 wsX7_couldBe (some .boolean) D cI cB kK kV A) {ad_t : Nat → Nat} {t_wills : Int32} {t_heirs : Int32} {t_kindOf : Nat → Int32} {t_worthOf : Nat → Int32} {t_thingOf : Nat → Int32} {t_changesOf : Nat → Int32} {t_changes : Int32} {t_heard : Int32} {t_heardHeir : Nat → Int32} {t_heardOne : Nat → Int32} {t_heardTwo : Nat → Int32} {t_heardMore : Nat → Int32} {t_pageLength : Int32} {t_page : Nat → Int32} {t_says : Nat → Int32} {t_dealt : Nat → Int32} {t_farOf : Nat → Int32} {t_endMany : Int32} {t_endMost : Int32} {t_endLeast : Int32} {t_endFew : Int32} {t_seedNow : Int64} {t_saved : Nat → Int32} {t_isKept : Int32} {t_keptWill : Int32} {t_keptChanges : Int32} {t_keptHeard : Int32} {t_keptWorth : Nat → Int32} {t_keptThing : Nat → Int32} {t_keptChangesOf : Nat → Int32} {t_keptHeir : Nat → Int32} {t_keptOne : Nat → Int32} {t_keptTwo : Nat → Int32} {t_keptMore : Nat → Int32} {t_h : Int64} {rr : Int32}  (back_6 : Int32 → Int32 → Int32 → Int32 → Int32 → Option (Int32)) (hb_6 : ∀ (x1 : Int32) (x2 : Int32) (x3 : Int32) (x4 : Int32) (x5 : Int32) (H : Heap) (locs : List Loc) (ls : Array Slot), va_P D vwCl (w_X7 cI cB ad_t t_wills t_heirs t_kindOf t_worthOf t_thingOf t_changesOf t_changes t_heard t_heardHeir t_heardOne t_heardTwo t_heardMore t_pageLength t_page t_says t_dealt t_farOf t_endMany t_endMost t_endLeast t_endFew t_seedNow t_saved t_isKept t_keptWill t_keptChanges t_keptHeard t_keptWorth t_keptThing t_keptChangesOf t_keptHeir t_keptOne t_keptTwo t_keptMore t_h) H → va_D A (w_X7 cI cB ad_t t_wills t_heirs t_kindOf t_worthOf t_thingOf t_changesOf t_changes t_heard t_heardHeir t_heardOne t_heardTwo t_heardMore t_pageLength t_page t_says t_dealt t_farOf t_endMany t_endMost t_endLeast t_endFew t_seedNow t_saved t_isKept t_keptWill t_keptChanges t_keptHeard t_keptWorth t_keptThing t_keptChangesOf t_keptHeir t_keptOne t_keptTwo t_keptMore t_h) → va_S A s.heap H locs → lv_has ls 7 [(0, .ref (ad_t 0)), (1, .int x1), (2, .int x2), (3, .int x3), (4, .int x4), (5, .int x5)] → back_6 x1 x2 x3 x4 x5 = some rr → W p l e rm_X7_couldBe s m args below meth c H locs 0 0 (Zq D below args s A (w_X7 cI cB ad_t t_wills t_heirs t_kindOf t_worthOf t_thingOf t_changesOf t_changes t_heard t_heardHeir t_heardOne t_heardTwo t_heardMore t_pageLength t_page t_says t_dealt t_farOf t_endMany t_endMost t_endLeast t_endFew t_seedNow t_saved t_isKept t_keptWill t_keptChanges t_keptHeard t_keptWorth t_keptThing t_keptChangesOf t_keptHeir t_keptOne t_keptTwo t_keptMore t_h) (some (.int rr))) (F0 m 6 ls [])) : ∀ (x1 : Int32) (x2 : Int32) (x3 : Int32) (x5 : Int32) (k0 : Int32) (k1 : Int32) (H : Heap) (locs : List Loc) (ls : Array Slot), va_P D vwCl (w_X7 cI cB ad_t t_wills t_heirs t_kindOf t_worthOf t_thingOf t_changesOf t_changes t_heard t_heardHeir t_heardOne t_heardTwo t_heardMore t_pageLength t_page t_says t_dealt t_farOf t_endMany t_endMost t_endLeast t_endFew t_seedNow t_saved t_isKept t_keptWill t_keptChanges t_keptHeard t_keptWorth t_keptThing t_keptChangesOf t_keptHeir t_keptOne t_keptTwo t_keptMore t_h) H → va_D A (w_X7 cI cB ad_t t_wills t_heirs t_kindOf t_worthOf t_thingOf t_changesOf t_changes t_heard t_heardHeir t_heardOne t_heardTwo t_heardMore t_pageLength t_page t_says t_dealt t_farOf t_endMany t_endMost t_endLeast t_endFew t_seedNow t_saved t_isKept t_keptWill t_keptChanges t_keptHeard t_keptWorth t_keptThing t_keptChangesOf t_keptHeir t_keptOne t_keptTwo t_keptMore t_h) → va_S A s.heap H locs → lv_has ls 7 [(0, .ref (ad_t 0)), (1, .int x1), (2, .int x2), (3, .int x3), (5, .int x5)] → f_X7_couldBe_87 t_worthOf t_heard t_heardHeir t_heardOne t_heardTwo t_heardMore back_6 x1 x2 x3 x5 k0 k1 = some rr → W p l e rm_X7_couldBe s m args below meth c H locs 0 0 (Zq D below args s A (w_X7 cI cB ad_t t_wills t_heirs t_kindOf t_worthOf t_thingOf t_changesOf t_changes t_heard t_heardHeir t_heardOne t_heardTwo t_heardMore t_pageLength t_page t_says t_dealt t_farOf t_endMany t_endMost t_endLeast t_endFew t_seedNow t_saved t_isKept t_keptWill t_keptChanges t_keptHeard t_keptWorth t_keptThing t_keptChangesOf t_keptHeir t_keptOne t_keptTwo t_keptMore t_h) (some (.int rr))) (F0 m 87 ls [.int k0, .int k1]) := by
  obtain ⟨hx, hb, hml, hown, hts, hrt, hlocks, hK, hA, hZ⟩ := id F
  intro x1 x2 x3 x5 k0 k1 H locs ls hP hD hS hl hf
  refine lv_icmp_ne (tgt := 94) hx hb dX7_couldBe_87 (by decide) (fun c1 => ?_) (fun c1 => ?_)
  · replace hf := (if_neg c1).symm.trans hf
    exact b_X7_couldBe_94 F back_6 hb_6 x1 x2 x3 x5 H locs ls hP hD hS (lv_sub hl [0, 1, 2, 3, 4] rfl) hf
  · replace hf := (if_pos c1).symm.trans hf
    exact b_X7_couldBe_90 F back_6 hb_6 x1 x2 x3 x5 H locs ls hP hD hS (lv_sub hl [0, 1, 2, 3, 4] rfl) hf

set_option maxHeartbeats 4000000 in
set_option maxRecDepth 100000 in
theorem b_X7_couldBe_51 {p : Program} {l : Launch} {e : Env} {s : State} {m : MethodId} {args : Array Value} {below : List Frame} {meth : Method} {c : Code} {D : va_G} {cI cB : ClassId} {kK kV : Nat → Nat} {A : Nat → Prop} (F : Fx p m c s meth args cX7_couldBe 7 RX7 wsX7_couldBe (some .boolean) D cI cB kK kV A) {ad_t : Nat → Nat} {t_wills : Int32} {t_heirs : Int32} {t_kindOf : Nat → Int32} {t_worthOf : Nat → Int32} {t_thingOf : Nat → Int32} {t_changesOf : Nat → Int32} {t_changes : Int32} {t_heard : Int32} {t_heardHeir : Nat → Int32} {t_heardOne : Nat → Int32} {t_heardTwo : Nat → Int32} {t_heardMore : Nat → Int32} {t_pageLength : Int32} {t_page : Nat → Int32} {t_says : Nat → Int32} {t_dealt : Nat → Int32} {t_farOf : Nat → Int32} {t_endMany : Int32} {t_endMost : Int32} {t_endLeast : Int32} {t_endFew : Int32} {t_seedNow : Int64} {t_saved : Nat → Int32} {t_isKept : Int32} {t_keptWill : Int32} {t_keptChanges : Int32} {t_keptHeard : Int32} {t_keptWorth : Nat → Int32} {t_keptThing : Nat → Int32} {t_keptChangesOf : Nat → Int32} {t_keptHeir : Nat → Int32} {t_keptOne : Nat → Int32} {t_keptTwo : Nat → Int32} {t_keptMore : Nat → Int32} {t_h : Int64} {rr : Int32}  (back_6 : Int32 → Int32 → Int32 → Int32 → Int32 → Option (Int32)) (hb_6 : ∀ (x1 : Int32) (x2 : Int32) (x3 : Int32) (x4 : Int32) (x5 : Int32) (H : Heap) (locs : List Loc) (ls : Array Slot), va_P D vwCl (w_X7 cI cB ad_t t_wills t_heirs t_kindOf t_worthOf t_thingOf t_changesOf t_changes t_heard t_heardHeir t_heardOne t_heardTwo t_heardMore t_pageLength t_page t_says t_dealt t_farOf t_endMany t_endMost t_endLeast t_endFew t_seedNow t_saved t_isKept t_keptWill t_keptChanges t_keptHeard t_keptWorth t_keptThing t_keptChangesOf t_keptHeir t_keptOne t_keptTwo t_keptMore t_h) H → va_D A (w_X7 cI cB ad_t t_wills t_heirs t_kindOf t_worthOf t_thingOf t_changesOf t_changes t_heard t_heardHeir t_heardOne t_heardTwo t_heardMore t_pageLength t_page t_says t_dealt t_farOf t_endMany t_endMost t_endLeast t_endFew t_seedNow t_saved t_isKept t_keptWill t_keptChanges t_keptHeard t_keptWorth t_keptThing t_keptChangesOf t_keptHeir t_keptOne t_keptTwo t_keptMore t_h) → va_S A s.heap H locs → lv_has ls 7 [(0, .ref (ad_t 0)), (1, .int x1), (2, .int x2), (3, .int x3), (4, .int x4), (5, .int x5)] → back_6 x1 x2 x3 x4 x5 = some rr → W p l e rm_X7_couldBe s m args below meth c H locs 0 0 (Zq D below args s A (w_X7 cI cB ad_t t_wills t_heirs t_kindOf t_worthOf t_thingOf t_changesOf t_changes t_heard t_heardHeir t_heardOne t_heardTwo t_heardMore t_pageLength t_page t_says t_dealt t_farOf t_endMany t_endMost t_endLeast t_endFew t_seedNow t_saved t_isKept t_keptWill t_keptChanges t_keptHeard t_keptWorth t_keptThing t_keptChangesOf t_keptHeir t_keptOne t_keptTwo t_keptMore t_h) (some (.int rr))) (F0 m 6 ls [])) : ∀ (x1 : Int32) (x2 : Int32) (x3 : Int32) (x4 : Int32) (x5 : Int32) (k0 : Int32) (H : Heap) (locs : List Loc) (ls : Array Slot), va_P D vwCl (w_X7 cI cB ad_t t_wills t_heirs t_kindOf t_worthOf t_thingOf t_changesOf t_changes t_heard t_heardHeir t_heardOne t_heardTwo t_heardMore t_pageLength t_page t_says t_dealt t_farOf t_endMany t_endMost t_endLeast t_endFew t_seedNow t_saved t_isKept t_keptWill t_keptChanges t_keptHeard t_keptWorth t_keptThing t_keptChangesOf t_keptHeir t_keptOne t_keptTwo t_keptMore t_h) H → va_D A (w_X7 cI cB ad_t t_wills t_heirs t_kindOf t_worthOf t_thingOf t_changesOf t_changes t_heard t_heardHeir t_heardOne t_heardTwo t_heardMore t_pageLength t_page t_says t_dealt t_farOf t_endMany t_endMost t_endLeast t_endFew t_seedNow t_saved t_isKept t_keptWill t_keptChanges t_keptHeard t_keptWorth t_keptThing t_keptChangesOf t_keptHeir t_keptOne t_keptTwo t_keptMore t_h) → va_S A s.heap H locs → lv_has ls 7 [(0, .ref (ad_t 0)), (1, .int x1), (2, .int x2), (3, .int x3), (4, .int x4), (5, .int x5)] → f_X7_couldBe_51 t_worthOf t_heard t_heardHeir t_heardOne t_heardTwo t_heardMore back_6 x1 x2 x3 x4 x5 k0 = some rr → W p l e rm_X7_couldBe s m args below meth c H locs 0 0 (Zq D below args s A (w_X7 cI cB ad_t t_wills t_heirs t_kindOf t_worthOf t_thingOf t_changesOf t_changes t_heard t_heardHeir t_heardOne t_heardTwo t_heardMore t_pageLength t_page t_says t_dealt t_farOf t_endMany t_endMost t_endLeast t_endFew t_seedNow t_saved t_isKept t_keptWill t_keptChanges t_keptHeard t_keptWorth t_keptThing t_keptChangesOf t_keptHeir t_keptOne t_keptTwo t_keptMore t_h) (some (.int rr))) (F0 m 51 ls [.int k0]) := by
  obtain ⟨hx, hb, hml, hown, hts, hrt, hlocks, hK, hA, hZ⟩ := id F
  intro x1 x2 x3 x4 x5 k0 H locs ls hP hD hS hl hf
  refine lv_istore (lv' := [(6, .int k0), (0, .ref (ad_t 0)), (1, .int x1), (2, .int x2), (3, .int x3), (4, .int x4), (5, .int x5)]) hx hb dX7_couldBe_51 hl (by decide) rfl (fun ls hl => ?_)
  refine lv_iload hx hb dX7_couldBe_53 (lv_at hl 5 rfl) ?_
  refine lv_if_eq (tgt := 94) hx hb dX7_couldBe_55 (by decide) (fun c1 => ?_) (fun c1 => ?_)
  · replace hf := (if_pos c1).symm.trans hf
    exact b_X7_couldBe_94 F back_6 hb_6 x1 x2 x3 x5 H locs ls hP hD hS (lv_sub hl [1, 2, 3, 4, 6] rfl) hf
  · replace hf := (if_neg c1).symm.trans hf
    refine lv_aload_n hx hb dX7_couldBe_58 rfl (lv_at hl 1 rfl) ?_
    refine gf F hP in_X7_couldBe_X7 0 rfl rfl 8 (by decide) 4 rfl rfl dX7_couldBe_59 ?_
    refine lv_iload hx hb dX7_couldBe_62 (lv_at hl 6 rfl) ?_
    obtain ⟨v2, ev2, hf⟩ := bnd hf
    refine ald F hP 5 rfl ev2 dX7_couldBe_64 ?_
    refine lv_iload_n hx hb dX7_couldBe_65 rfl (lv_at hl 2 rfl) ?_
    refine lv_icmp_ne (tgt := 90) hx hb dX7_couldBe_66 (by decide) (fun c3 => ?_) (fun c3 => ?_)
    · replace hf := (if_neg c3).symm.trans hf
      exact b_X7_couldBe_90 F back_6 hb_6 x1 x2 x3 x5 H locs ls hP hD hS (lv_sub hl [1, 2, 3, 4, 6] rfl) hf
    · replace hf := (if_pos c3).symm.trans hf
      refine lv_iload hx hb dX7_couldBe_69 (lv_at hl 0 rfl) ?_
      refine lv_aload_n hx hb dX7_couldBe_71 rfl (lv_at hl 1 rfl) ?_
      refine gf F hP in_X7_couldBe_X7 0 rfl rfl 11 (by decide) 5 rfl rfl dX7_couldBe_72 ?_
      refine lv_iload hx hb dX7_couldBe_75 (lv_at hl 6 rfl) ?_
      obtain ⟨v4, ev4, hf⟩ := bnd hf
      refine ald F hP 8 rfl ev4 dX7_couldBe_77 ?_
      refine lv_iconst (v := 1) hx hb dX7_couldBe_78 (by decide) ?_
      refine lv_icmp_ne (tgt := 86) hx hb dX7_couldBe_79 (by decide) (fun c5 => ?_) (fun c5 => ?_)
      · replace hf := (if_neg c5).symm.trans hf
        refine lv_iconst (v := 0) hx hb dX7_couldBe_86 (by decide) ?_
        exact b_X7_couldBe_87 F back_6 hb_6 x1 x2 x3 x5 0 k0 H locs ls hP hD hS (lv_sub hl [1, 2, 3, 4, 6] rfl) hf
      · replace hf := (if_pos c5).symm.trans hf
        refine lv_iconst (v := 1) hx hb dX7_couldBe_82 (by decide) ?_
        refine lv_goto (tgt := 87) hx hb dX7_couldBe_83 (by decide) ?_
        exact b_X7_couldBe_87 F back_6 hb_6 x1 x2 x3 x5 1 k0 H locs ls hP hD hS (lv_sub hl [1, 2, 3, 4, 6] rfl) hf

set_option maxHeartbeats 4000000 in
set_option maxRecDepth 100000 in
theorem b_X7_couldBe_6 {p : Program} {l : Launch} {e : Env} {s : State} {m : MethodId} {args : Array Value} {below : List Frame} {meth : Method} {c : Code} {D : va_G} {cI cB : ClassId} {kK kV : Nat → Nat} {A : Nat → Prop} (F : Fx p m c s meth args cX7_couldBe 7 RX7 wsX7_couldBe (some .boolean) D cI cB kK kV A) {ad_t : Nat → Nat} {t_wills : Int32} {t_heirs : Int32} {t_kindOf : Nat → Int32} {t_worthOf : Nat → Int32} {t_thingOf : Nat → Int32} {t_changesOf : Nat → Int32} {t_changes : Int32} {t_heard : Int32} {t_heardHeir : Nat → Int32} {t_heardOne : Nat → Int32} {t_heardTwo : Nat → Int32} {t_heardMore : Nat → Int32} {t_pageLength : Int32} {t_page : Nat → Int32} {t_says : Nat → Int32} {t_dealt : Nat → Int32} {t_farOf : Nat → Int32} {t_endMany : Int32} {t_endMost : Int32} {t_endLeast : Int32} {t_endFew : Int32} {t_seedNow : Int64} {t_saved : Nat → Int32} {t_isKept : Int32} {t_keptWill : Int32} {t_keptChanges : Int32} {t_keptHeard : Int32} {t_keptWorth : Nat → Int32} {t_keptThing : Nat → Int32} {t_keptChangesOf : Nat → Int32} {t_keptHeir : Nat → Int32} {t_keptOne : Nat → Int32} {t_keptTwo : Nat → Int32} {t_keptMore : Nat → Int32} {t_h : Int64} {rr : Int32}  : ∀ (n : Nat), ∀ (x1 : Int32) (x2 : Int32) (x3 : Int32) (x4 : Int32) (x5 : Int32) (H : Heap) (locs : List Loc) (ls : Array Slot), va_P D vwCl (w_X7 cI cB ad_t t_wills t_heirs t_kindOf t_worthOf t_thingOf t_changesOf t_changes t_heard t_heardHeir t_heardOne t_heardTwo t_heardMore t_pageLength t_page t_says t_dealt t_farOf t_endMany t_endMost t_endLeast t_endFew t_seedNow t_saved t_isKept t_keptWill t_keptChanges t_keptHeard t_keptWorth t_keptThing t_keptChangesOf t_keptHeir t_keptOne t_keptTwo t_keptMore t_h) H → va_D A (w_X7 cI cB ad_t t_wills t_heirs t_kindOf t_worthOf t_thingOf t_changesOf t_changes t_heard t_heardHeir t_heardOne t_heardTwo t_heardMore t_pageLength t_page t_says t_dealt t_farOf t_endMany t_endMost t_endLeast t_endFew t_seedNow t_saved t_isKept t_keptWill t_keptChanges t_keptHeard t_keptWorth t_keptThing t_keptChangesOf t_keptHeir t_keptOne t_keptTwo t_keptMore t_h) → va_S A s.heap H locs → lv_has ls 7 [(0, .ref (ad_t 0)), (1, .int x1), (2, .int x2), (3, .int x3), (4, .int x4), (5, .int x5)] → f_X7_couldBe_6 t_worthOf t_heard t_heardHeir t_heardOne t_heardTwo t_heardMore  n x1 x2 x3 x4 x5 = some rr → W p l e rm_X7_couldBe s m args below meth c H locs 0 0 (Zq D below args s A (w_X7 cI cB ad_t t_wills t_heirs t_kindOf t_worthOf t_thingOf t_changesOf t_changes t_heard t_heardHeir t_heardOne t_heardTwo t_heardMore t_pageLength t_page t_says t_dealt t_farOf t_endMany t_endMost t_endLeast t_endFew t_seedNow t_saved t_isKept t_keptWill t_keptChanges t_keptHeard t_keptWorth t_keptThing t_keptChangesOf t_keptHeir t_keptOne t_keptTwo t_keptMore t_h) (some (.int rr))) (F0 m 6 ls []) := by
  obtain ⟨hx, hb, hml, hown, hts, hrt, hlocks, hK, hA, hZ⟩ := id F
  intro n
  induction n with
  | zero =>
    intro x1 x2 x3 x4 x5 H locs ls hP hD hS hl hf
    cases hf
  | succ n ih =>
    intro x1 x2 x3 x4 x5 H locs ls hP hD hS hl hf
    refine lv_iload hx hb dX7_couldBe_6 (lv_at hl 5 rfl) ?_
    refine lv_aload_n hx hb dX7_couldBe_8 rfl (lv_at hl 0 rfl) ?_
    refine gf F hP in_X7_couldBe_X7 0 rfl rfl 7 (by decide) 1 rfl rfl dX7_couldBe_9 ?_
    refine lv_icmp_ge (tgt := 103) hx hb dX7_couldBe_12 (by decide) (fun c1 => ?_) (fun c1 => ?_)
    · replace hf := (if_pos c1).symm.trans hf
      refine lv_iload hx hb dX7_couldBe_103 (lv_at hl 4 rfl) ?_
      obtain ⟨b2, eb2, hf⟩ := bnd hf
      obtain ⟨nb2, qb2⟩ := bz_some eb2
      rw [qb2] at nb2
      refine teqi qb2 ?_
      replace hf : (some b2 : Option (Int32)) = some rr := hf
      cases hf
      exact ret_z F nb2 hP hS dX7_couldBe_105
    · replace hf := (if_neg c1).symm.trans hf
      refine lv_aload_n hx hb dX7_couldBe_15 rfl (lv_at hl 0 rfl) ?_
      refine lv_iload_n hx hb dX7_couldBe_16 rfl (lv_at hl 1 rfl) ?_
      refine lv_aload_n hx hb dX7_couldBe_17 rfl (lv_at hl 0 rfl) ?_
      refine gf F hP in_X7_couldBe_X7 0 rfl rfl 9 (by decide) 2 rfl rfl dX7_couldBe_18 ?_
      refine lv_iload hx hb dX7_couldBe_21 (lv_at hl 5 rfl) ?_
      obtain ⟨v3, ev3, hf⟩ := bnd hf
      refine ald F hP 6 rfl ev3 dX7_couldBe_23 ?_
      refine lv_iload_n hx hb dX7_couldBe_24 rfl (lv_at hl 2 rfl) ?_
      refine lv_iload_n hx hb dX7_couldBe_25 rfl (lv_at hl 3 rfl) ?_
      obtain ⟨v4, e5, hf⟩ := bnd hf
      refine cV F hP hD hS (k_X7_worthIf l ad_t t_wills t_heirs t_kindOf t_worthOf t_thingOf t_changesOf t_changes t_heard t_heardHeir t_heardOne t_heardTwo t_heardMore t_pageLength t_page t_says t_dealt t_farOf t_endMany t_endMost t_endLeast t_endFew t_seedNow t_saved t_isKept t_keptWill t_keptChanges t_keptHeard t_keptWorth t_keptThing t_keptChangesOf t_keptHeir t_keptOne t_keptTwo t_keptMore t_h x1 v3 x2 x3 e5) gX7_couldBe_X7_worthIf rfl ⟨rfl, rfl⟩ nd_X7_worthIf ⟨Nat.le_of_ble_eq_true rfl, Nat.le_of_ble_eq_true rfl⟩ 0 7 rfl rfl rfl hl.1 rfl (Nat.le_of_ble_eq_true rfl) dX7_couldBe_26 (pm0 (w_X7 cI cB ad_t t_wills t_heirs t_kindOf t_worthOf t_thingOf t_changesOf t_changes t_heard t_heardHeir t_heardOne t_heardTwo t_heardMore t_pageLength t_page t_says t_dealt t_farOf t_endMany t_endMost t_endLeast t_endFew t_seedNow t_saved t_isKept t_keptWill t_keptChanges t_keptHeard t_keptWorth t_keptThing t_keptChangesOf t_keptHeir t_keptOne t_keptTwo t_keptMore t_h)) (pm0 (w_X7 cI cB ad_t t_wills t_heirs t_kindOf t_worthOf t_thingOf t_changesOf t_changes t_heard t_heardHeir t_heardOne t_heardTwo t_heardMore t_pageLength t_page t_says t_dealt t_farOf t_endMany t_endMost t_endLeast t_endFew t_seedNow t_saved t_isKept t_keptWill t_keptChanges t_keptHeard t_keptWorth t_keptThing t_keptChangesOf t_keptHeir t_keptOne t_keptTwo t_keptMore t_h)) (fun H locs hP hD hS => ?_)
      refine lv_aload_n hx hb dX7_couldBe_29 rfl (lv_at hl 0 rfl) ?_
      refine lv_iload_n hx hb dX7_couldBe_30 rfl (lv_at hl 1 rfl) ?_
      refine lv_aload_n hx hb dX7_couldBe_31 rfl (lv_at hl 0 rfl) ?_
      refine gf F hP in_X7_couldBe_X7 0 rfl rfl 10 (by decide) 3 rfl rfl dX7_couldBe_32 ?_
      refine lv_iload hx hb dX7_couldBe_35 (lv_at hl 5 rfl) ?_
      obtain ⟨v6, ev6, hf⟩ := bnd hf
      refine ald F hP 7 rfl ev6 dX7_couldBe_37 ?_
      refine lv_iload_n hx hb dX7_couldBe_38 rfl (lv_at hl 2 rfl) ?_
      refine lv_iload_n hx hb dX7_couldBe_39 rfl (lv_at hl 3 rfl) ?_
      obtain ⟨v7, e8, hf⟩ := bnd hf
      refine cV F hP hD hS (k_X7_worthIf l ad_t t_wills t_heirs t_kindOf t_worthOf t_thingOf t_changesOf t_changes t_heard t_heardHeir t_heardOne t_heardTwo t_heardMore t_pageLength t_page t_says t_dealt t_farOf t_endMany t_endMost t_endLeast t_endFew t_seedNow t_saved t_isKept t_keptWill t_keptChanges t_keptHeard t_keptWorth t_keptThing t_keptChangesOf t_keptHeir t_keptOne t_keptTwo t_keptMore t_h x1 v6 x2 x3 e8) gX7_couldBe_X7_worthIf rfl ⟨rfl, rfl⟩ nd_X7_worthIf ⟨Nat.le_of_ble_eq_true rfl, Nat.le_of_ble_eq_true rfl⟩ 0 7 rfl rfl rfl hl.1 rfl (Nat.le_of_ble_eq_true rfl) dX7_couldBe_40 (pm0 (w_X7 cI cB ad_t t_wills t_heirs t_kindOf t_worthOf t_thingOf t_changesOf t_changes t_heard t_heardHeir t_heardOne t_heardTwo t_heardMore t_pageLength t_page t_says t_dealt t_farOf t_endMany t_endMost t_endLeast t_endFew t_seedNow t_saved t_isKept t_keptWill t_keptChanges t_keptHeard t_keptWorth t_keptThing t_keptChangesOf t_keptHeir t_keptOne t_keptTwo t_keptMore t_h)) (pm0 (w_X7 cI cB ad_t t_wills t_heirs t_kindOf t_worthOf t_thingOf t_changesOf t_changes t_heard t_heardHeir t_heardOne t_heardTwo t_heardMore t_pageLength t_page t_says t_dealt t_farOf t_endMany t_endMost t_endLeast t_endFew t_seedNow t_saved t_isKept t_keptWill t_keptChanges t_keptHeard t_keptWorth t_keptThing t_keptChangesOf t_keptHeir t_keptOne t_keptTwo t_keptMore t_h)) (fun H locs hP hD hS => ?_)
      refine lv_icmp_le (tgt := 50) hx hb dX7_couldBe_43 (by decide) (fun c9 => ?_) (fun c9 => ?_)
      · replace hf := (if_pos c9).symm.trans hf
        refine lv_iconst (v := 0) hx hb dX7_couldBe_50 (by decide) ?_
        exact b_X7_couldBe_51 F (f_X7_couldBe_6 t_worthOf t_heard t_heardHeir t_heardOne t_heardTwo t_heardMore  n) ih x1 x2 x3 x4 x5 0 H locs ls hP hD hS (lv_sub hl [0, 1, 2, 3, 4, 5] rfl) hf
      · replace hf := (if_neg c9).symm.trans hf
        refine lv_iconst (v := 1) hx hb dX7_couldBe_46 (by decide) ?_
        refine lv_goto (tgt := 51) hx hb dX7_couldBe_47 (by decide) ?_
        exact b_X7_couldBe_51 F (f_X7_couldBe_6 t_worthOf t_heard t_heardHeir t_heardOne t_heardTwo t_heardMore  n) ih x1 x2 x3 x4 x5 1 H locs ls hP hD hS (lv_sub hl [0, 1, 2, 3, 4, 5] rfl) hf

set_option maxHeartbeats 4000000 in
set_option maxRecDepth 100000 in
theorem k_X7_couldBe (l : Launch) {D : va_G} {cI cB : ClassId} {kK kV : Nat → Nat} (ad_t : Nat → Nat) (t_wills : Int32) (t_heirs : Int32) (t_kindOf : Nat → Int32) (t_worthOf : Nat → Int32) (t_thingOf : Nat → Int32) (t_changesOf : Nat → Int32) (t_changes : Int32) (t_heard : Int32) (t_heardHeir : Nat → Int32) (t_heardOne : Nat → Int32) (t_heardTwo : Nat → Int32) (t_heardMore : Nat → Int32) (t_pageLength : Int32) (t_page : Nat → Int32) (t_says : Nat → Int32) (t_dealt : Nat → Int32) (t_farOf : Nat → Int32) (t_endMany : Int32) (t_endMost : Int32) (t_endLeast : Int32) (t_endFew : Int32) (t_seedNow : Int64) (t_saved : Nat → Int32) (t_isKept : Int32) (t_keptWill : Int32) (t_keptChanges : Int32) (t_keptHeard : Int32) (t_keptWorth : Nat → Int32) (t_keptThing : Nat → Int32) (t_keptChangesOf : Nat → Int32) (t_keptHeir : Nat → Int32) (t_keptOne : Nat → Int32) (t_keptTwo : Nat → Int32) (t_keptMore : Nat → Int32) (t_h : Int64) (x1 : Int32) (x2 : Int32) (x3 : Int32) {rr : Int32}  (hf : f_X7_couldBe t_worthOf t_heard t_heardHeir t_heardOne t_heardTwo t_heardMore x1 x2 x3 = some rr) : Ct l yX7_couldBe wsX7_couldBe rm_X7_couldBe D cI cB kK kV [.ref (ad_t 0), .int x1, .int x2, .int x3] (w_X7 cI cB ad_t t_wills t_heirs t_kindOf t_worthOf t_thingOf t_changesOf t_changes t_heard t_heardHeir t_heardOne t_heardTwo t_heardMore t_pageLength t_page t_says t_dealt t_farOf t_endMany t_endMost t_endLeast t_endFew t_seedNow t_saved t_isKept t_keptWill t_keptChanges t_keptHeard t_keptWorth t_keptThing t_keptChangesOf t_keptHeir t_keptOne t_keptTwo t_keptMore t_h) (w_X7 cI cB ad_t t_wills t_heirs t_kindOf t_worthOf t_thingOf t_changesOf t_changes t_heard t_heardHeir t_heardOne t_heardTwo t_heardMore t_pageLength t_page t_says t_dealt t_farOf t_endMany t_endMost t_endLeast t_endFew t_seedNow t_saved t_isKept t_keptWill t_keptChanges t_keptHeard t_keptWorth t_keptThing t_keptChangesOf t_keptHeir t_keptOne t_keptTwo t_keptMore t_h) (some (.int rr)) := by
  refine Ct.of (cc := cX7_couldBe) (maxL := 7) (ret := (some .boolean)) (by decide) rfl (Nat.le_of_ble_eq_true rfl) rfl ?_
  intro p e s m below meth c A ls F hP hD hS hl
  have hl : lv_has ls 7 [(0, .ref (ad_t 0)), (1, .int x1), (2, .int x2), (3, .int x3)] := hl
  obtain ⟨hx, hb, hml, hown, hts, hrt, hlocks, hK, hA, hZ⟩ := id F
  obtain ⟨H, hH⟩ : ∃ H, H = s.heap := ⟨_, rfl⟩
  obtain ⟨locs, hLo⟩ : ∃ q : List Loc, q = [] := ⟨_, rfl⟩
  refine (?_ : W p l e rm_X7_couldBe s m _ below meth c s.heap [] 0 0 _ _)
  rw [← hH, ← hLo]
  rw [← hH] at hP
  have hS : va_S A s.heap H locs := by rw [hH, hLo]; exact hS
  refine lv_iconst (v := 1) hx hb dX7_couldBe_0 (by decide) ?_
  refine lv_istore (lv' := [(4, .int 1), (0, .ref (ad_t 0)), (1, .int x1), (2, .int x2), (3, .int x3)]) hx hb dX7_couldBe_1 hl (by decide) rfl (fun ls hl => ?_)
  refine lv_iconst (v := 0) hx hb dX7_couldBe_3 (by decide) ?_
  refine lv_istore (lv' := [(5, .int 0), (4, .int 1), (0, .ref (ad_t 0)), (1, .int x1), (2, .int x2), (3, .int x3)]) hx hb dX7_couldBe_4 hl (by decide) rfl (fun ls hl => ?_)
  exact b_X7_couldBe_6 F 300 x1 x2 x3 1 0 H locs ls hP hD hS (lv_sub hl [2, 3, 4, 5, 1, 0] rfl) hf

/-! X7_truthsNow -/
def rm_X7_truthsNow : Room := { frames := 2, cells := 0, slots := 0, locals := 50 }
theorem nd_X7_truthsNow : yX7_truthsNow.cls = RX7 ∧ yX7_truthsNow.cls ≠ "java/lang/invoke/MethodHandle" ∧ yX7_truthsNow.cls ≠ "java/lang/invoke/VarHandle" ∧ (parseMethodDescriptor yX7_truthsNow.desc).map (fun d => d.parameters.length) = some 2 := by decide +kernel
def f_X7_truthsNow_32 (t_worthOf : Nat → Int32) (t_heard : Int32) (t_heardHeir : Nat → Int32) (t_heardOne : Nat → Int32) (t_heardTwo : Nat → Int32) (t_heardMore : Nat → Int32) (back_5 : Int32 → Int32 → Int32 → Int32 → Option (Int32)) (x1 : Int32) (x2 : Int32) (x4 : Int32) (k0 : Int32) (k1 : Int32) : Option (Int32) := back_5 x1 x2 (k1 ||| k0) (x4 + 1)
def f_X7_truthsNow_5 (t_worthOf : Nat → Int32) (t_heard : Int32) (t_heardHeir : Nat → Int32) (t_heardOne : Nat → Int32) (t_heardTwo : Nat → Int32) (t_heardMore : Nat → Int32)  : Nat → Int32 → Int32 → Int32 → Int32 → Option (Int32)
  | 0, _, _, _, _ => none
  | n + 1, x1, x2, x3, x4 => (if 9 < x4 then some x3 else (f_X7_couldBe t_worthOf t_heard t_heardHeir t_heardOne t_heardTwo t_heardMore x1 x2 x4).bind (fun v2 => (if v2 = 0 then f_X7_truthsNow_32 t_worthOf t_heard t_heardHeir t_heardOne t_heardTwo t_heardMore (f_X7_truthsNow_5 t_worthOf t_heard t_heardHeir t_heardOne t_heardTwo t_heardMore  n) x1 x2 x4 0 x3 else f_X7_truthsNow_32 t_worthOf t_heard t_heardHeir t_heardOne t_heardTwo t_heardMore (f_X7_truthsNow_5 t_worthOf t_heard t_heardHeir t_heardOne t_heardTwo t_heardMore  n) x1 x2 x4 ((1 : Int32) <<< (x4 &&& 31)) x3)))
def f_X7_truthsNow (t_worthOf : Nat → Int32) (t_heard : Int32) (t_heardHeir : Nat → Int32) (t_heardOne : Nat → Int32) (t_heardTwo : Nat → Int32) (t_heardMore : Nat → Int32) (x1 : Int32) (x2 : Int32) : Option (Int32) := f_X7_truthsNow_5 t_worthOf t_heard t_heardHeir t_heardOne t_heardTwo t_heardMore 300 x1 x2 0 0
set_option maxHeartbeats 4000000 in
set_option maxRecDepth 100000 in
theorem b_X7_truthsNow_32 {p : Program} {l : Launch} {e : Env} {s : State} {m : MethodId} {args : Array Value} {below : List Frame} {meth : Method} {c : Code} {D : va_G} {cI cB : ClassId} {kK kV : Nat → Nat} {A : Nat → Prop} (F : Fx p m c s meth args cX7_truthsNow 5 RX7 wsX7_truthsNow (some .int) D cI cB kK kV A) {ad_t : Nat → Nat} {t_wills : Int32} {t_heirs : Int32} {t_kindOf : Nat → Int32} {t_worthOf : Nat → Int32} {t_thingOf : Nat → Int32} {t_changesOf : Nat → Int32} {t_changes : Int32} {t_heard : Int32} {t_heardHeir : Nat → Int32} {t_heardOne : Nat → Int32} {t_heardTwo : Nat → Int32} {t_heardMore : Nat → Int32} {t_pageLength : Int32} {t_page : Nat → Int32} {t_says : Nat → Int32} {t_dealt : Nat → Int32} {t_farOf : Nat → Int32} {t_endMany : Int32} {t_endMost : Int32} {t_endLeast : Int32} {t_endFew : Int32} {t_seedNow : Int64} {t_saved : Nat → Int32} {t_isKept : Int32} {t_keptWill : Int32} {t_keptChanges : Int32} {t_keptHeard : Int32} {t_keptWorth : Nat → Int32} {t_keptThing : Nat → Int32} {t_keptChangesOf : Nat → Int32} {t_keptHeir : Nat → Int32} {t_keptOne : Nat → Int32} {t_keptTwo : Nat → Int32} {t_keptMore : Nat → Int32} {t_h : Int64} {rr : Int32}  (back_5 : Int32 → Int32 → Int32 → Int32 → Option (Int32)) (hb_5 : ∀ (x1 : Int32) (x2 : Int32) (x3 : Int32) (x4 : Int32) (H : Heap) (locs : List Loc) (ls : Array Slot), va_P D vwCl (w_X7 cI cB ad_t t_wills t_heirs t_kindOf t_worthOf t_thingOf t_changesOf t_changes t_heard t_heardHeir t_heardOne t_heardTwo t_heardMore t_pageLength t_page t_says t_dealt t_farOf t_endMany t_endMost t_endLeast t_endFew t_seedNow t_saved t_isKept t_keptWill t_keptChanges t_keptHeard t_keptWorth t_keptThing t_keptChangesOf t_keptHeir t_keptOne t_keptTwo t_keptMore t_h) H → va_D A (w_X7 cI cB ad_t t_wills t_heirs t_kindOf t_worthOf t_thingOf t_changesOf t_changes t_heard t_heardHeir t_heardOne t_heardTwo t_heardMore t_pageLength t_page t_says t_dealt t_farOf t_endMany t_endMost t_endLeast t_endFew t_seedNow t_saved t_isKept t_keptWill t_keptChanges t_keptHeard t_keptWorth t_keptThing t_keptChangesOf t_keptHeir t_keptOne t_keptTwo t_keptMore t_h) → va_S A s.heap H locs → lv_has ls 5 [(0, .ref (ad_t 0)), (1, .int x1), (2, .int x2), (3, .int x3), (4, .int x4)] → back_5 x1 x2 x3 x4 = some rr → W p l e rm_X7_truthsNow s m args below meth c H locs 0 0 (Zq D below args s A (w_X7 cI cB ad_t t_wills t_heirs t_kindOf t_worthOf t_thingOf t_changesOf t_changes t_heard t_heardHeir t_heardOne t_heardTwo t_heardMore t_pageLength t_page t_says t_dealt t_farOf t_endMany t_endMost t_endLeast t_endFew t_seedNow t_saved t_isKept t_keptWill t_keptChanges t_keptHeard t_keptWorth t_keptThing t_keptChangesOf t_keptHeir t_keptOne t_keptTwo t_keptMore t_h) (some (.int rr))) (F0 m 5 ls [])) : ∀ (x1 : Int32) (x2 : Int32) (x4 : Int32) (k0 : Int32) (k1 : Int32) (H : Heap) (locs : List Loc) (ls : Array Slot), va_P D vwCl (w_X7 cI cB ad_t t_wills t_heirs t_kindOf t_worthOf t_thingOf t_changesOf t_changes t_heard t_heardHeir t_heardOne t_heardTwo t_heardMore t_pageLength t_page t_says t_dealt t_farOf t_endMany t_endMost t_endLeast t_endFew t_seedNow t_saved t_isKept t_keptWill t_keptChanges t_keptHeard t_keptWorth t_keptThing t_keptChangesOf t_keptHeir t_keptOne t_keptTwo t_keptMore t_h) H → va_D A (w_X7 cI cB ad_t t_wills t_heirs t_kindOf t_worthOf t_thingOf t_changesOf t_changes t_heard t_heardHeir t_heardOne t_heardTwo t_heardMore t_pageLength t_page t_says t_dealt t_farOf t_endMany t_endMost t_endLeast t_endFew t_seedNow t_saved t_isKept t_keptWill t_keptChanges t_keptHeard t_keptWorth t_keptThing t_keptChangesOf t_keptHeir t_keptOne t_keptTwo t_keptMore t_h) → va_S A s.heap H locs → lv_has ls 5 [(0, .ref (ad_t 0)), (1, .int x1), (2, .int x2), (4, .int x4)] → f_X7_truthsNow_32 t_worthOf t_heard t_heardHeir t_heardOne t_heardTwo t_heardMore back_5 x1 x2 x4 k0 k1 = some rr → W p l e rm_X7_truthsNow s m args below meth c H locs 0 0 (Zq D below args s A (w_X7 cI cB ad_t t_wills t_heirs t_kindOf t_worthOf t_thingOf t_changesOf t_changes t_heard t_heardHeir t_heardOne t_heardTwo t_heardMore t_pageLength t_page t_says t_dealt t_farOf t_endMany t_endMost t_endLeast t_endFew t_seedNow t_saved t_isKept t_keptWill t_keptChanges t_keptHeard t_keptWorth t_keptThing t_keptChangesOf t_keptHeir t_keptOne t_keptTwo t_keptMore t_h) (some (.int rr))) (F0 m 32 ls [.int k0, .int k1]) := by
  obtain ⟨hx, hb, hml, hown, hts, hrt, hlocks, hK, hA, hZ⟩ := id F
  intro x1 x2 x4 k0 k1 H locs ls hP hD hS hl hf
  refine lv_ior hx hb dX7_truthsNow_32 ?_
  refine lv_istore_n (lv' := [(3, .int (k1 ||| k0)), (0, .ref (ad_t 0)), (1, .int x1), (2, .int x2), (4, .int x4)]) hx hb dX7_truthsNow_33 rfl hl (by decide) rfl (fun ls hl => ?_)
  refine lv_iinc (v := (x4 + 1)) (lv' := [(4, .int (x4 + 1)), (3, .int (k1 ||| k0)), (0, .ref (ad_t 0)), (1, .int x1), (2, .int x2)]) hx hb dX7_truthsNow_34 hl (k := 4) rfl rfl (by decide) rfl (fun ls hl => ?_)
  refine lv_goto (tgt := 5) hx hb dX7_truthsNow_37 (by decide) ?_
  exact hb_5 x1 x2 (k1 ||| k0) (x4 + 1) H locs ls hP hD hS (lv_sub hl [2, 3, 4, 1, 0] rfl) hf

set_option maxHeartbeats 4000000 in
set_option maxRecDepth 100000 in
theorem b_X7_truthsNow_5 {p : Program} {l : Launch} {e : Env} {s : State} {m : MethodId} {args : Array Value} {below : List Frame} {meth : Method} {c : Code} {D : va_G} {cI cB : ClassId} {kK kV : Nat → Nat} {A : Nat → Prop} (F : Fx p m c s meth args cX7_truthsNow 5 RX7 wsX7_truthsNow (some .int) D cI cB kK kV A) {ad_t : Nat → Nat} {t_wills : Int32} {t_heirs : Int32} {t_kindOf : Nat → Int32} {t_worthOf : Nat → Int32} {t_thingOf : Nat → Int32} {t_changesOf : Nat → Int32} {t_changes : Int32} {t_heard : Int32} {t_heardHeir : Nat → Int32} {t_heardOne : Nat → Int32} {t_heardTwo : Nat → Int32} {t_heardMore : Nat → Int32} {t_pageLength : Int32} {t_page : Nat → Int32} {t_says : Nat → Int32} {t_dealt : Nat → Int32} {t_farOf : Nat → Int32} {t_endMany : Int32} {t_endMost : Int32} {t_endLeast : Int32} {t_endFew : Int32} {t_seedNow : Int64} {t_saved : Nat → Int32} {t_isKept : Int32} {t_keptWill : Int32} {t_keptChanges : Int32} {t_keptHeard : Int32} {t_keptWorth : Nat → Int32} {t_keptThing : Nat → Int32} {t_keptChangesOf : Nat → Int32} {t_keptHeir : Nat → Int32} {t_keptOne : Nat → Int32} {t_keptTwo : Nat → Int32} {t_keptMore : Nat → Int32} {t_h : Int64} {rr : Int32}  : ∀ (n : Nat), ∀ (x1 : Int32) (x2 : Int32) (x3 : Int32) (x4 : Int32) (H : Heap) (locs : List Loc) (ls : Array Slot), va_P D vwCl (w_X7 cI cB ad_t t_wills t_heirs t_kindOf t_worthOf t_thingOf t_changesOf t_changes t_heard t_heardHeir t_heardOne t_heardTwo t_heardMore t_pageLength t_page t_says t_dealt t_farOf t_endMany t_endMost t_endLeast t_endFew t_seedNow t_saved t_isKept t_keptWill t_keptChanges t_keptHeard t_keptWorth t_keptThing t_keptChangesOf t_keptHeir t_keptOne t_keptTwo t_keptMore t_h) H → va_D A (w_X7 cI cB ad_t t_wills t_heirs t_kindOf t_worthOf t_thingOf t_changesOf t_changes t_heard t_heardHeir t_heardOne t_heardTwo t_heardMore t_pageLength t_page t_says t_dealt t_farOf t_endMany t_endMost t_endLeast t_endFew t_seedNow t_saved t_isKept t_keptWill t_keptChanges t_keptHeard t_keptWorth t_keptThing t_keptChangesOf t_keptHeir t_keptOne t_keptTwo t_keptMore t_h) → va_S A s.heap H locs → lv_has ls 5 [(0, .ref (ad_t 0)), (1, .int x1), (2, .int x2), (3, .int x3), (4, .int x4)] → f_X7_truthsNow_5 t_worthOf t_heard t_heardHeir t_heardOne t_heardTwo t_heardMore  n x1 x2 x3 x4 = some rr → W p l e rm_X7_truthsNow s m args below meth c H locs 0 0 (Zq D below args s A (w_X7 cI cB ad_t t_wills t_heirs t_kindOf t_worthOf t_thingOf t_changesOf t_changes t_heard t_heardHeir t_heardOne t_heardTwo t_heardMore t_pageLength t_page t_says t_dealt t_farOf t_endMany t_endMost t_endLeast t_endFew t_seedNow t_saved t_isKept t_keptWill t_keptChanges t_keptHeard t_keptWorth t_keptThing t_keptChangesOf t_keptHeir t_keptOne t_keptTwo t_keptMore t_h) (some (.int rr))) (F0 m 5 ls []) := by
  obtain ⟨hx, hb, hml, hown, hts, hrt, hlocks, hK, hA, hZ⟩ := id F
  intro n
  induction n with
  | zero =>
    intro x1 x2 x3 x4 H locs ls hP hD hS hl hf
    cases hf
  | succ n ih =>
    intro x1 x2 x3 x4 H locs ls hP hD hS hl hf
    refine lv_iload hx hb dX7_truthsNow_5 (lv_at hl 4 rfl) ?_
    refine lv_bipush (v := 9) hx hb dX7_truthsNow_7 (by decide) ?_
    refine lv_icmp_gt (tgt := 40) hx hb dX7_truthsNow_9 (by decide) (fun c1 => ?_) (fun c1 => ?_)
    · replace hf := (if_pos c1).symm.trans hf
      refine lv_iload_n hx hb dX7_truthsNow_40 rfl (lv_at hl 3 rfl) ?_
      replace hf : (some x3 : Option (Int32)) = some rr := hf
      cases hf
      exact ret_i F hP hS dX7_truthsNow_41
    · replace hf := (if_neg c1).symm.trans hf
      refine lv_iload_n hx hb dX7_truthsNow_12 rfl (lv_at hl 3 rfl) ?_
      refine lv_aload_n hx hb dX7_truthsNow_13 rfl (lv_at hl 0 rfl) ?_
      refine lv_iload_n hx hb dX7_truthsNow_14 rfl (lv_at hl 1 rfl) ?_
      refine lv_iload_n hx hb dX7_truthsNow_15 rfl (lv_at hl 2 rfl) ?_
      refine lv_iload hx hb dX7_truthsNow_16 (lv_at hl 4 rfl) ?_
      obtain ⟨v2, e3, hf⟩ := bnd hf
      refine cV F hP hD hS (k_X7_couldBe l ad_t t_wills t_heirs t_kindOf t_worthOf t_thingOf t_changesOf t_changes t_heard t_heardHeir t_heardOne t_heardTwo t_heardMore t_pageLength t_page t_says t_dealt t_farOf t_endMany t_endMost t_endLeast t_endFew t_seedNow t_saved t_isKept t_keptWill t_keptChanges t_keptHeard t_keptWorth t_keptThing t_keptChangesOf t_keptHeir t_keptOne t_keptTwo t_keptMore t_h x1 x2 x4 e3) gX7_truthsNow_X7_couldBe rfl ⟨rfl, rfl⟩ nd_X7_couldBe ⟨Nat.le_of_ble_eq_true rfl, Nat.le_of_ble_eq_true rfl⟩ 0 7 rfl rfl rfl hl.1 rfl (Nat.le_of_ble_eq_true rfl) dX7_truthsNow_18 (pm0 (w_X7 cI cB ad_t t_wills t_heirs t_kindOf t_worthOf t_thingOf t_changesOf t_changes t_heard t_heardHeir t_heardOne t_heardTwo t_heardMore t_pageLength t_page t_says t_dealt t_farOf t_endMany t_endMost t_endLeast t_endFew t_seedNow t_saved t_isKept t_keptWill t_keptChanges t_keptHeard t_keptWorth t_keptThing t_keptChangesOf t_keptHeir t_keptOne t_keptTwo t_keptMore t_h)) (pm0 (w_X7 cI cB ad_t t_wills t_heirs t_kindOf t_worthOf t_thingOf t_changesOf t_changes t_heard t_heardHeir t_heardOne t_heardTwo t_heardMore t_pageLength t_page t_says t_dealt t_farOf t_endMany t_endMost t_endLeast t_endFew t_seedNow t_saved t_isKept t_keptWill t_keptChanges t_keptHeard t_keptWorth t_keptThing t_keptChangesOf t_keptHeir t_keptOne t_keptTwo t_keptMore t_h)) (fun H locs hP hD hS => ?_)
      refine lv_if_eq (tgt := 31) hx hb dX7_truthsNow_21 (by decide) (fun c4 => ?_) (fun c4 => ?_)
      · replace hf := (if_pos c4).symm.trans hf
        refine lv_iconst (v := 0) hx hb dX7_truthsNow_31 (by decide) ?_
        exact b_X7_truthsNow_32 F (f_X7_truthsNow_5 t_worthOf t_heard t_heardHeir t_heardOne t_heardTwo t_heardMore  n) ih x1 x2 x4 0 x3 H locs ls hP hD hS (lv_sub hl [0, 1, 2, 4] rfl) hf
      · replace hf := (if_neg c4).symm.trans hf
        refine lv_iconst (v := 1) hx hb dX7_truthsNow_24 (by decide) ?_
        refine lv_iload hx hb dX7_truthsNow_25 (lv_at hl 4 rfl) ?_
        refine lv_ishl hx hb dX7_truthsNow_27 ?_
        refine lv_goto (tgt := 32) hx hb dX7_truthsNow_28 (by decide) ?_
        exact b_X7_truthsNow_32 F (f_X7_truthsNow_5 t_worthOf t_heard t_heardHeir t_heardOne t_heardTwo t_heardMore  n) ih x1 x2 x4 ((1 : Int32) <<< (x4 &&& 31)) x3 H locs ls hP hD hS (lv_sub hl [0, 1, 2, 4] rfl) hf

set_option maxHeartbeats 4000000 in
set_option maxRecDepth 100000 in
theorem k_X7_truthsNow (l : Launch) {D : va_G} {cI cB : ClassId} {kK kV : Nat → Nat} (ad_t : Nat → Nat) (t_wills : Int32) (t_heirs : Int32) (t_kindOf : Nat → Int32) (t_worthOf : Nat → Int32) (t_thingOf : Nat → Int32) (t_changesOf : Nat → Int32) (t_changes : Int32) (t_heard : Int32) (t_heardHeir : Nat → Int32) (t_heardOne : Nat → Int32) (t_heardTwo : Nat → Int32) (t_heardMore : Nat → Int32) (t_pageLength : Int32) (t_page : Nat → Int32) (t_says : Nat → Int32) (t_dealt : Nat → Int32) (t_farOf : Nat → Int32) (t_endMany : Int32) (t_endMost : Int32) (t_endLeast : Int32) (t_endFew : Int32) (t_seedNow : Int64) (t_saved : Nat → Int32) (t_isKept : Int32) (t_keptWill : Int32) (t_keptChanges : Int32) (t_keptHeard : Int32) (t_keptWorth : Nat → Int32) (t_keptThing : Nat → Int32) (t_keptChangesOf : Nat → Int32) (t_keptHeir : Nat → Int32) (t_keptOne : Nat → Int32) (t_keptTwo : Nat → Int32) (t_keptMore : Nat → Int32) (t_h : Int64) (x1 : Int32) (x2 : Int32) {rr : Int32}  (hf : f_X7_truthsNow t_worthOf t_heard t_heardHeir t_heardOne t_heardTwo t_heardMore x1 x2 = some rr) : Ct l yX7_truthsNow wsX7_truthsNow rm_X7_truthsNow D cI cB kK kV [.ref (ad_t 0), .int x1, .int x2] (w_X7 cI cB ad_t t_wills t_heirs t_kindOf t_worthOf t_thingOf t_changesOf t_changes t_heard t_heardHeir t_heardOne t_heardTwo t_heardMore t_pageLength t_page t_says t_dealt t_farOf t_endMany t_endMost t_endLeast t_endFew t_seedNow t_saved t_isKept t_keptWill t_keptChanges t_keptHeard t_keptWorth t_keptThing t_keptChangesOf t_keptHeir t_keptOne t_keptTwo t_keptMore t_h) (w_X7 cI cB ad_t t_wills t_heirs t_kindOf t_worthOf t_thingOf t_changesOf t_changes t_heard t_heardHeir t_heardOne t_heardTwo t_heardMore t_pageLength t_page t_says t_dealt t_farOf t_endMany t_endMost t_endLeast t_endFew t_seedNow t_saved t_isKept t_keptWill t_keptChanges t_keptHeard t_keptWorth t_keptThing t_keptChangesOf t_keptHeir t_keptOne t_keptTwo t_keptMore t_h) (some (.int rr)) := by
  refine Ct.of (cc := cX7_truthsNow) (maxL := 5) (ret := (some .int)) (by decide) rfl (Nat.le_of_ble_eq_true rfl) rfl ?_
  intro p e s m below meth c A ls F hP hD hS hl
  have hl : lv_has ls 5 [(0, .ref (ad_t 0)), (1, .int x1), (2, .int x2)] := hl
  obtain ⟨hx, hb, hml, hown, hts, hrt, hlocks, hK, hA, hZ⟩ := id F
  obtain ⟨H, hH⟩ : ∃ H, H = s.heap := ⟨_, rfl⟩
  obtain ⟨locs, hLo⟩ : ∃ q : List Loc, q = [] := ⟨_, rfl⟩
  refine (?_ : W p l e rm_X7_truthsNow s m _ below meth c s.heap [] 0 0 _ _)
  rw [← hH, ← hLo]
  rw [← hH] at hP
  have hS : va_S A s.heap H locs := by rw [hH, hLo]; exact hS
  refine lv_iconst (v := 0) hx hb dX7_truthsNow_0 (by decide) ?_
  refine lv_istore_n (lv' := [(3, .int 0), (0, .ref (ad_t 0)), (1, .int x1), (2, .int x2)]) hx hb dX7_truthsNow_1 rfl hl (by decide) rfl (fun ls hl => ?_)
  refine lv_iconst (v := 0) hx hb dX7_truthsNow_2 (by decide) ?_
  refine lv_istore (lv' := [(4, .int 0), (3, .int 0), (0, .ref (ad_t 0)), (1, .int x1), (2, .int x2)]) hx hb dX7_truthsNow_3 hl (by decide) rfl (fun ls hl => ?_)
  exact b_X7_truthsNow_5 F 300 x1 x2 0 0 H locs ls hP hD hS (lv_sub hl [2, 3, 4, 1, 0] rfl) hf

