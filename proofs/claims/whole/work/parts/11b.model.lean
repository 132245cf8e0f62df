/-! X7_will -/
def rm_X7_will : Room := { frames := 4, cells := 0, slots := 0, locals := 92 }
theorem in_X7_will_X7 : ∀ w ∈ u_ws RX7 TX7 35, w ∈ wsX7_will := fun _ h => List.mem_cons_of_mem _ (List.mem_append_right _ (h))
theorem nd_X7_will : yX7_will.cls = RX7 ∧ yX7_will.cls ≠ "java/lang/invoke/MethodHandle" ∧ yX7_will.cls ≠ "java/lang/invoke/VarHandle" ∧ (parseMethodDescriptor yX7_will.desc).map (fun d => d.parameters.length) = some 0 := by decide +kernel
def f_X7_will_89 (t_page : Nat → Int32) (back_47 : Int32 → Int32 → Int32 → (Nat → Int32) → (Nat → Int32) → (Nat → Int32) → (Nat → Int32) → Int32 → Int32 → Int32 → (Nat → Int32) → (Nat → Int32) → Option (Int32 × Int32 × Int32 × (Nat → Int32) × (Nat → Int32) × (Nat → Int32) × (Nat → Int32) × Int32 × Int32 × Int32 × (Nat → Int32) × (Nat → Int32))) : Nat → Int32 → Int32 → Int32 → Int32 → (Nat → Int32) → (Nat → Int32) → (Nat → Int32) → (Nat → Int32) → Int32 → Int32 → Int32 → (Nat → Int32) → (Nat → Int32) → Option (Int32 × Int32 × Int32 × (Nat → Int32) × (Nat → Int32) × (Nat → Int32) × (Nat → Int32) × Int32 × Int32 × Int32 × (Nat → Int32) × (Nat → Int32))
  | 0, _, _, _, _, _, _, _, _, _, _, _, _, _ => none
  | n + 1, x2, x3, t_wills, t_heirs, t_kindOf, t_worthOf, t_thingOf, t_changesOf, t_changes, t_heard, t_pageLength, t_says, t_dealt => (if 4 ≤ x3 then back_47 (x2 + 1) t_wills t_heirs t_kindOf t_worthOf t_thingOf t_changesOf t_changes t_heard t_pageLength t_says t_dealt else (rd t_page 25 (((6 * x2) + 1) + x3)).bind (fun v2 => (wr t_worthOf 16 ((4 * x2) + x3) (v2 - 48)).bind (fun g3 => f_X7_will_89 t_page back_47 n x2 (x3 + 1) t_wills t_heirs t_kindOf g3 t_thingOf t_changesOf t_changes t_heard t_pageLength t_says t_dealt)))
def f_X7_will_47 (t_page : Nat → Int32)  : Nat → Int32 → Int32 → Int32 → (Nat → Int32) → (Nat → Int32) → (Nat → Int32) → (Nat → Int32) → Int32 → Int32 → Int32 → (Nat → Int32) → (Nat → Int32) → Option (Int32 × Int32 × Int32 × (Nat → Int32) × (Nat → Int32) × (Nat → Int32) × (Nat → Int32) × Int32 × Int32 × Int32 × (Nat → Int32) × (Nat → Int32))
  | 0, _, _, _, _, _, _, _, _, _, _, _, _ => none
  | n + 1, x2, t_wills, t_heirs, t_kindOf, t_worthOf, t_thingOf, t_changesOf, t_changes, t_heard, t_pageLength, t_says, t_dealt => (if t_heirs ≤ x2 then (f_X7_dealNow t_heirs t_kindOf t_worthOf t_thingOf t_says t_dealt).bind (fun (v2, g3, g4, g5) => some (t_heirs, (t_wills + 1), t_heirs, t_kindOf, t_worthOf, g3, t_changesOf, 0, 0, 0, g4, g5)) else (rd t_page 25 (6 * x2)).bind (fun v7 => (f_X7_kindBy v7).bind (fun v8 => (wr t_kindOf 4 x2 v8).bind (fun g10 => (wr t_changesOf 4 x2 0).bind (fun g11 => (wr t_thingOf 4 x2 (-1)).bind (fun g12 => f_X7_will_89 t_page (f_X7_will_47 t_page  n) 300 x2 0 t_wills t_heirs g10 t_worthOf g12 g11 t_changes t_heard t_pageLength t_says t_dealt))))))
def f_X7_will (t_wills : Int32) (t_heirs : Int32) (t_kindOf : Nat → Int32) (t_worthOf : Nat → Int32) (t_thingOf : Nat → Int32) (t_changesOf : Nat → Int32) (t_changes : Int32) (t_heard : Int32) (t_pageLength : Int32) (t_page : Nat → Int32) (t_says : Nat → Int32) (t_dealt : Nat → Int32)  : Option (Int32 × Int32 × Int32 × (Nat → Int32) × (Nat → Int32) × (Nat → Int32) × (Nat → Int32) × Int32 × Int32 × Int32 × (Nat → Int32) × (Nat → Int32)) := (f_X7_faultNow t_pageLength t_page).bind (fun v1 => (if v1 = t_pageLength then (if (t_pageLength - t_pageLength / 6 * 6) = 5 then (if 2 ≤ ((t_pageLength + 1) / 6) then f_X7_will_47 t_page 300 0 t_wills ((t_pageLength + 1) / 6) t_kindOf t_worthOf t_thingOf t_changesOf t_changes t_heard t_pageLength t_says t_dealt else some ((-103), t_wills, t_heirs, t_kindOf, t_worthOf, t_thingOf, t_changesOf, t_changes, t_heard, t_pageLength, t_says, t_dealt)) else some ((-103), t_wills, t_heirs, t_kindOf, t_worthOf, t_thingOf, t_changesOf, t_changes, t_heard, t_pageLength, t_says, t_dealt)) else some ((-103), t_wills, t_heirs, t_kindOf, t_worthOf, t_thingOf, t_changesOf, t_changes, t_heard, t_pageLength, t_says, t_dealt)))
set_option maxHeartbeats 4000000 in
set_option maxRecDepth 100000 in
theorem b_X7_will_89 {p : Program} {l : Launch} {e : Env} {s : State} {m : MethodId} {args : Array Value} {below : List Frame} {meth : Method} {c : Code} {D : va_G} {cI cB : ClassId} {kK kV : Nat → Nat} {A : Nat → Prop} (F : Fx p m c s meth args cX7_will 4 RX7 wsX7_will (some .int) D cI cB kK kV A) {ad_t : Nat → Nat} {t_heardHeir : Nat → Int32} {t_heardOne : Nat → Int32} {t_heardTwo : Nat → Int32} {t_heardMore : Nat → Int32} {t_page : Nat → Int32} {t_farOf : Nat → Int32} {t_endMany : Int32} {t_endMost : Int32} {t_endLeast : Int32} {t_endFew : Int32} {t_seedNow : Int64} {t_saved : Nat → Int32} {t_isKept : Int32} {t_keptWill : Int32} {t_keptChanges : Int32} {t_keptHeard : Int32} {t_keptWorth : Nat → Int32} {t_keptThing : Nat → Int32} {t_keptChangesOf : Nat → Int32} {t_keptHeir : Nat → Int32} {t_keptOne : Nat → Int32} {t_keptTwo : Nat → Int32} {t_keptMore : Nat → Int32} {t_h : Int64} {rr : Int32} {g_t_wills : Int32} {g_t_heirs : Int32} {g_t_kindOf : Nat → Int32} {g_t_worthOf : Nat → Int32} {g_t_thingOf : Nat → Int32} {g_t_changesOf : Nat → Int32} {g_t_changes : Int32} {g_t_heard : Int32} {g_t_pageLength : Int32} {g_t_says : Nat → Int32} {g_t_dealt : Nat → Int32} (back_47 : Int32 → Int32 → Int32 → (Nat → Int32) → (Nat → Int32) → (Nat → Int32) → (Nat → Int32) → Int32 → Int32 → Int32 → (Nat → Int32) → (Nat → Int32) → Option (Int32 × Int32 × Int32 × (Nat → Int32) × (Nat → Int32) × (Nat → Int32) × (Nat → Int32) × Int32 × Int32 × Int32 × (Nat → Int32) × (Nat → Int32))) (hb_47 : ∀ (x2 : Int32) (t_wills : Int32) (t_heirs : Int32) (t_kindOf : Nat → Int32) (t_worthOf : Nat → Int32) (t_thingOf : Nat → Int32) (t_changesOf : Nat → Int32) (t_changes : Int32) (t_heard : Int32) (t_pageLength : Int32) (t_says : Nat → Int32) (t_dealt : Nat → Int32) (H : Heap) (locs : List Loc) (ls : Array Slot), va_P D vwCl (w_X7 cI cB ad_t t_wills t_heirs t_kindOf t_worthOf t_thingOf t_changesOf t_changes t_heard t_heardHeir t_heardOne t_heardTwo t_heardMore t_pageLength t_page t_says t_dealt t_farOf t_endMany t_endMost t_endLeast t_endFew t_seedNow t_saved t_isKept t_keptWill t_keptChanges t_keptHeard t_keptWorth t_keptThing t_keptChangesOf t_keptHeir t_keptOne t_keptTwo t_keptMore t_h) H → va_D A (w_X7 cI cB ad_t t_wills t_heirs t_kindOf t_worthOf t_thingOf t_changesOf t_changes t_heard t_heardHeir t_heardOne t_heardTwo t_heardMore t_pageLength t_page t_says t_dealt t_farOf t_endMany t_endMost t_endLeast t_endFew t_seedNow t_saved t_isKept t_keptWill t_keptChanges t_keptHeard t_keptWorth t_keptThing t_keptChangesOf t_keptHeir t_keptOne t_keptTwo t_keptMore t_h) → va_S A s.heap H locs → lv_has ls 4 [(0, .ref (ad_t 0)), (2, .int x2)] → back_47 x2 t_wills t_heirs t_kindOf t_worthOf t_thingOf t_changesOf t_changes t_heard t_pageLength t_says t_dealt = some (rr, g_t_wills, g_t_heirs, g_t_kindOf, g_t_worthOf, g_t_thingOf, g_t_changesOf, g_t_changes, g_t_heard, g_t_pageLength, g_t_says, g_t_dealt) → W p l e rm_X7_will s m args below meth c H locs 0 0 (Zq D below args s A (w_X7 cI cB ad_t g_t_wills g_t_heirs g_t_kindOf g_t_worthOf g_t_thingOf g_t_changesOf g_t_changes g_t_heard t_heardHeir t_heardOne t_heardTwo t_heardMore g_t_pageLength t_page g_t_says g_t_dealt t_farOf t_endMany t_endMost t_endLeast t_endFew t_seedNow t_saved t_isKept t_keptWill t_keptChanges t_keptHeard t_keptWorth t_keptThing t_keptChangesOf t_keptHeir t_keptOne t_keptTwo t_keptMore t_h) (some (.int rr))) (F0 m 47 ls [])) : ∀ (n : Nat), ∀ (x2 : Int32) (x3 : Int32) (t_wills : Int32) (t_heirs : Int32) (t_kindOf : Nat → Int32) (t_worthOf : Nat → Int32) (t_thingOf : Nat → Int32) (t_changesOf : Nat → Int32) (t_changes : Int32) (t_heard : Int32) (t_pageLength : Int32) (t_says : Nat → Int32) (t_dealt : Nat → Int32) (H : Heap) (locs : List Loc) (ls : Array Slot), va_P D vwCl (w_X7 cI cB ad_t t_wills t_heirs t_kindOf t_worthOf t_thingOf t_changesOf t_changes t_heard t_heardHeir t_heardOne t_heardTwo t_heardMore t_pageLength t_page t_says t_dealt t_farOf t_endMany t_endMost t_endLeast t_endFew t_seedNow t_saved t_isKept t_keptWill t_keptChanges t_keptHeard t_keptWorth t_keptThing t_keptChangesOf t_keptHeir t_keptOne t_keptTwo t_keptMore t_h) H → va_D A (w_X7 cI cB ad_t t_wills t_heirs t_kindOf t_worthOf t_thingOf t_changesOf t_changes t_heard t_heardHeir t_heardOne t_heardTwo t_heardMore t_pageLength t_page t_says t_dealt t_farOf t_endMany t_endMost t_endLeast t_endFew t_seedNow t_saved t_isKept t_keptWill t_keptChanges t_keptHeard t_keptWorth t_keptThing t_keptChangesOf t_keptHeir t_keptOne t_keptTwo t_keptMore t_h) → va_S A s.heap H locs → lv_has ls 4 [(0, .ref (ad_t 0)), (2, .int x2), (3, .int x3)] → f_X7_will_89 t_page back_47 n x2 x3 t_wills t_heirs t_kindOf t_worthOf t_thingOf t_changesOf t_changes t_heard t_pageLength t_says t_dealt = some (rr, g_t_wills, g_t_heirs, g_t_kindOf, g_t_worthOf, g_t_thingOf, g_t_changesOf, g_t_changes, g_t_heard, g_t_pageLength, g_t_says, g_t_dealt) → W p l e rm_X7_will s m args below meth c H locs 0 0 (Zq D below args s A (w_X7 cI cB ad_t g_t_wills g_t_heirs g_t_kindOf g_t_worthOf g_t_thingOf g_t_changesOf g_t_changes g_t_heard t_heardHeir t_heardOne t_heardTwo t_heardMore g_t_pageLength t_page g_t_says g_t_dealt t_farOf t_endMany t_endMost t_endLeast t_endFew t_seedNow t_saved t_isKept t_keptWill t_keptChanges t_keptHeard t_keptWorth t_keptThing t_keptChangesOf t_keptHeir t_keptOne t_keptTwo t_keptMore t_h) (some (.int rr))) (F0 m 89 ls []) := by
  obtain ⟨hx, hb, hml, hown, hts, hrt, hlocks, hK, hA, hZ⟩ := id F
  intro n
  induction n with
  | zero =>
    intro x2 x3 t_wills t_heirs t_kindOf t_worthOf t_thingOf t_changesOf t_changes t_heard t_pageLength t_says t_dealt H locs ls hP hD hS hl hf
    cases hf
  | succ n ih =>
    intro x2 x3 t_wills t_heirs t_kindOf t_worthOf t_thingOf t_changesOf t_changes t_heard t_pageLength t_says t_dealt H locs ls hP hD hS hl hf
    refine lv_iload_n hx hb dX7_will_89 rfl (lv_at hl 2 rfl) ?_
    refine lv_iconst (v := 4) hx hb dX7_will_90 (by decide) ?_
    refine lv_icmp_ge (tgt := 126) hx hb dX7_will_91 (by decide) (fun c1 => ?_) (fun c1 => ?_)
    · replace hf := (if_pos c1).symm.trans hf
      refine lv_iinc (v := (x2 + 1)) (lv' := [(2, .int (x2 + 1)), (0, .ref (ad_t 0)), (3, .int x3)]) hx hb dX7_will_126 hl (k := 1) rfl rfl (by decide) rfl (fun ls hl => ?_)
      refine lv_goto (tgt := 47) hx hb dX7_will_129 (by decide) ?_
      exact hb_47 (x2 + 1) t_wills t_heirs t_kindOf t_worthOf t_thingOf t_changesOf t_changes t_heard t_pageLength t_says t_dealt H locs ls hP hD hS (lv_sub hl [1, 0] rfl) hf
    · replace hf := (if_neg c1).symm.trans hf
      refine lv_aload_n hx hb dX7_will_94 rfl (lv_at hl 0 rfl) ?_
      refine gf F hP in_X7_will_X7 0 rfl rfl 3 (by decide) 7 rfl rfl dX7_will_95 ?_
      refine lv_iconst (v := 4) hx hb dX7_will_98 (by decide) ?_
      refine lv_iload_n hx hb dX7_will_99 rfl (lv_at hl 1 rfl) ?_
      refine lv_imul hx hb dX7_will_100 ?_
      refine lv_iload_n hx hb dX7_will_101 rfl (lv_at hl 2 rfl) ?_
      refine lv_iadd hx hb dX7_will_102 ?_
      refine lv_aload_n hx hb dX7_will_103 rfl (lv_at hl 0 rfl) ?_
      refine gf F hP in_X7_will_X7 0 rfl rfl 13 (by decide) 4 rfl rfl dX7_will_104 ?_
      refine lv_bipush (v := 6) hx hb dX7_will_107 (by decide) ?_
      refine lv_iload_n hx hb dX7_will_109 rfl (lv_at hl 1 rfl) ?_
      refine lv_imul hx hb dX7_will_110 ?_
      refine lv_iconst (v := 1) hx hb dX7_will_111 (by decide) ?_
      refine lv_iadd hx hb dX7_will_112 ?_
      refine lv_iload_n hx hb dX7_will_113 rfl (lv_at hl 2 rfl) ?_
      refine lv_iadd hx hb dX7_will_114 ?_
      obtain ⟨v2, ev2, hf⟩ := bnd hf
      refine bld F hP 9 rfl ev2 dX7_will_115 ?_
      refine lv_bipush (v := 48) hx hb dX7_will_116 (by decide) ?_
      refine lv_isub hx hb dX7_will_118 ?_
      obtain ⟨g3, eg3, hf⟩ := bnd hf
      refine ast F hP hD hS 2 rfl eg3 dX7_will_119 (w_X7 cI cB ad_t t_wills t_heirs t_kindOf g3 t_thingOf t_changesOf t_changes t_heard t_heardHeir t_heardOne t_heardTwo t_heardMore t_pageLength t_page t_says t_dealt t_farOf t_endMany t_endMost t_endLeast t_endFew t_seedNow t_saved t_isKept t_keptWill t_keptChanges t_keptHeard t_keptWorth t_keptThing t_keptChangesOf t_keptHeir t_keptOne t_keptTwo t_keptMore t_h) rfl (fun H locs hP hD hS => ?_)
      refine lv_iinc (v := (x3 + 1)) (lv' := [(3, .int (x3 + 1)), (0, .ref (ad_t 0)), (2, .int x2)]) hx hb dX7_will_120 hl (k := 2) rfl rfl (by decide) rfl (fun ls hl => ?_)
      refine lv_goto (tgt := 89) hx hb dX7_will_123 (by decide) ?_
      exact ih x2 (x3 + 1) t_wills t_heirs t_kindOf g3 t_thingOf t_changesOf t_changes t_heard t_pageLength t_says t_dealt H locs ls hP hD hS (lv_sub hl [1, 2, 0] rfl) hf

set_option maxHeartbeats 4000000 in
set_option maxRecDepth 100000 in
theorem b_X7_will_47 {p : Program} {l : Launch} {e : Env} {s : State} {m : MethodId} {args : Array Value} {below : List Frame} {meth : Method} {c : Code} {D : va_G} {cI cB : ClassId} {kK kV : Nat → Nat} {A : Nat → Prop} (F : Fx p m c s meth args cX7_will 4 RX7 wsX7_will (some .int) D cI cB kK kV A) {ad_t : Nat → Nat} {t_heardHeir : Nat → Int32} {t_heardOne : Nat → Int32} {t_heardTwo : Nat → Int32} {t_heardMore : Nat → Int32} {t_page : Nat → Int32} {t_farOf : Nat → Int32} {t_endMany : Int32} {t_endMost : Int32} {t_endLeast : Int32} {t_endFew : Int32} {t_seedNow : Int64} {t_saved : Nat → Int32} {t_isKept : Int32} {t_keptWill : Int32} {t_keptChanges : Int32} {t_keptHeard : Int32} {t_keptWorth : Nat → Int32} {t_keptThing : Nat → Int32} {t_keptChangesOf : Nat → Int32} {t_keptHeir : Nat → Int32} {t_keptOne : Nat → Int32} {t_keptTwo : Nat → Int32} {t_keptMore : Nat → Int32} {t_h : Int64} {rr : Int32} {g_t_wills : Int32} {g_t_heirs : Int32} {g_t_kindOf : Nat → Int32} {g_t_worthOf : Nat → Int32} {g_t_thingOf : Nat → Int32} {g_t_changesOf : Nat → Int32} {g_t_changes : Int32} {g_t_heard : Int32} {g_t_pageLength : Int32} {g_t_says : Nat → Int32} {g_t_dealt : Nat → Int32} : ∀ (n : Nat), ∀ (x2 : Int32) (t_wills : Int32) (t_heirs : Int32) (t_kindOf : Nat → Int32) (t_worthOf : Nat → Int32) (t_thingOf : Nat → Int32) (t_changesOf : Nat → Int32) (t_changes : Int32) (t_heard : Int32) (t_pageLength : Int32) (t_says : Nat → Int32) (t_dealt : Nat → Int32) (H : Heap) (locs : List Loc) (ls : Array Slot), va_P D vwCl (w_X7 cI cB ad_t t_wills t_heirs t_kindOf t_worthOf t_thingOf t_changesOf t_changes t_heard t_heardHeir t_heardOne t_heardTwo t_heardMore t_pageLength t_page t_says t_dealt t_farOf t_endMany t_endMost t_endLeast t_endFew t_seedNow t_saved t_isKept t_keptWill t_keptChanges t_keptHeard t_keptWorth t_keptThing t_keptChangesOf t_keptHeir t_keptOne t_keptTwo t_keptMore t_h) H → va_D A (w_X7 cI cB ad_t t_wills t_heirs t_kindOf t_worthOf t_thingOf t_changesOf t_changes t_heard t_heardHeir t_heardOne t_heardTwo t_heardMore t_pageLength t_page t_says t_dealt t_farOf t_endMany t_endMost t_endLeast t_endFew t_seedNow t_saved t_isKept t_keptWill t_keptChanges t_keptHeard t_keptWorth t_keptThing t_keptChangesOf t_keptHeir t_keptOne t_keptTwo t_keptMore t_h) → va_S A s.heap H locs → lv_has ls 4 [(0, .ref (ad_t 0)), (2, .int x2)] → f_X7_will_47 t_page  n x2 t_wills t_heirs t_kindOf t_worthOf t_thingOf t_changesOf t_changes t_heard t_pageLength t_says t_dealt = some (rr, g_t_wills, g_t_heirs, g_t_kindOf, g_t_worthOf, g_t_thingOf, g_t_changesOf, g_t_changes, g_t_heard, g_t_pageLength, g_t_says, g_t_dealt) → W p l e rm_X7_will s m args below meth c H locs 0 0 (Zq D below args s A (w_X7 cI cB ad_t g_t_wills g_t_heirs g_t_kindOf g_t_worthOf g_t_thingOf g_t_changesOf g_t_changes g_t_heard t_heardHeir t_heardOne t_heardTwo t_heardMore g_t_pageLength t_page g_t_says g_t_dealt t_farOf t_endMany t_endMost t_endLeast t_endFew t_seedNow t_saved t_isKept t_keptWill t_keptChanges t_keptHeard t_keptWorth t_keptThing t_keptChangesOf t_keptHeir t_keptOne t_keptTwo t_keptMore t_h) (some (.int rr))) (F0 m 47 ls []) := by
  obtain ⟨hx, hb, hml, hown, hts, hrt, hlocks, hK, hA, hZ⟩ := id F
  intro n
  induction n with
  | zero =>
    intro x2 t_wills t_heirs t_kindOf t_worthOf t_thingOf t_changesOf t_changes t_heard t_pageLength t_says t_dealt H locs ls hP hD hS hl hf
    cases hf
  | succ n ih =>
    intro x2 t_wills t_heirs t_kindOf t_worthOf t_thingOf t_changesOf t_changes t_heard t_pageLength t_says t_dealt H locs ls hP hD hS hl hf
    refine lv_iload_n hx hb dX7_will_47 rfl (lv_at hl 1 rfl) ?_
    refine lv_aload_n hx hb dX7_will_48 rfl (lv_at hl 0 rfl) ?_
    refine gf F hP in_X7_will_X7 0 rfl rfl 1 (by decide) 2 rfl rfl dX7_will_49 ?_
    refine lv_icmp_ge (tgt := 132) hx hb dX7_will_52 (by decide) (fun c1 => ?_) (fun c1 => ?_)
    · replace hf := (if_pos c1).symm.trans hf
      refine lv_aload_n hx hb dX7_will_132 rfl (lv_at hl 0 rfl) ?_
      refine lv_dup hx hb dX7_will_133 rfl ?_
      refine gf F hP in_X7_will_X7 0 rfl rfl 0 (by decide) 8 rfl rfl dX7_will_134 ?_
      refine lv_iconst (v := 1) hx hb dX7_will_137 (by decide) ?_
      refine lv_iadd hx hb dX7_will_138 ?_
      refine pf F hP hD hS in_X7_will_X7 tyX7 tyX7_ok nmX7 0 rfl rfl 0 (by decide) 8 rfl rfl rfl rfl (Nat.le_of_ble_eq_true rfl) dX7_will_139 (w_X7 cI cB ad_t (t_wills + 1) t_heirs t_kindOf t_worthOf t_thingOf t_changesOf t_changes t_heard t_heardHeir t_heardOne t_heardTwo t_heardMore t_pageLength t_page t_says t_dealt t_farOf t_endMany t_endMost t_endLeast t_endFew t_seedNow t_saved t_isKept t_keptWill t_keptChanges t_keptHeard t_keptWorth t_keptThing t_keptChangesOf t_keptHeir t_keptOne t_keptTwo t_keptMore t_h) rfl (fun H locs hP hD hS => ?_)
      refine lv_aload_n hx hb dX7_will_142 rfl (lv_at hl 0 rfl) ?_
      refine lv_iconst (v := 0) hx hb dX7_will_143 (by decide) ?_
      refine pf F hP hD hS in_X7_will_X7 tyX7 tyX7_ok nmX7 0 rfl rfl 6 (by decide) 9 rfl rfl rfl rfl (Nat.le_of_ble_eq_true rfl) dX7_will_144 (w_X7 cI cB ad_t (t_wills + 1) t_heirs t_kindOf t_worthOf t_thingOf t_changesOf 0 t_heard t_heardHeir t_heardOne t_heardTwo t_heardMore t_pageLength t_page t_says t_dealt t_farOf t_endMany t_endMost t_endLeast t_endFew t_seedNow t_saved t_isKept t_keptWill t_keptChanges t_keptHeard t_keptWorth t_keptThing t_keptChangesOf t_keptHeir t_keptOne t_keptTwo t_keptMore t_h) rfl (fun H locs hP hD hS => ?_)
      refine lv_aload_n hx hb dX7_will_147 rfl (lv_at hl 0 rfl) ?_
      refine lv_iconst (v := 0) hx hb dX7_will_148 (by decide) ?_
      refine pf F hP hD hS in_X7_will_X7 tyX7 tyX7_ok nmX7 0 rfl rfl 7 (by decide) 10 rfl rfl rfl rfl (Nat.le_of_ble_eq_true rfl) dX7_will_149 (w_X7 cI cB ad_t (t_wills + 1) t_heirs t_kindOf t_worthOf t_thingOf t_changesOf 0 0 t_heardHeir t_heardOne t_heardTwo t_heardMore t_pageLength t_page t_says t_dealt t_farOf t_endMany t_endMost t_endLeast t_endFew t_seedNow t_saved t_isKept t_keptWill t_keptChanges t_keptHeard t_keptWorth t_keptThing t_keptChangesOf t_keptHeir t_keptOne t_keptTwo t_keptMore t_h) rfl (fun H locs hP hD hS => ?_)
      refine lv_aload_n hx hb dX7_will_152 rfl (lv_at hl 0 rfl) ?_
      refine lv_iconst (v := 0) hx hb dX7_will_153 (by decide) ?_
      refine pf F hP hD hS in_X7_will_X7 tyX7 tyX7_ok nmX7 0 rfl rfl 12 (by decide) 1 rfl rfl rfl rfl (Nat.le_of_ble_eq_true rfl) dX7_will_154 (w_X7 cI cB ad_t (t_wills + 1) t_heirs t_kindOf t_worthOf t_thingOf t_changesOf 0 0 t_heardHeir t_heardOne t_heardTwo t_heardMore 0 t_page t_says t_dealt t_farOf t_endMany t_endMost t_endLeast t_endFew t_seedNow t_saved t_isKept t_keptWill t_keptChanges t_keptHeard t_keptWorth t_keptThing t_keptChangesOf t_keptHeir t_keptOne t_keptTwo t_keptMore t_h) rfl (fun H locs hP hD hS => ?_)
      refine lv_aload_n hx hb dX7_will_157 rfl (lv_at hl 0 rfl) ?_
      obtain ⟨⟨v2, g3, g4, g5⟩, e6, hf⟩ := bnd hf
      refine cV F hP hD hS (k_X7_dealNow l ad_t (t_wills + 1) t_heirs t_kindOf t_worthOf t_thingOf t_changesOf 0 0 t_heardHeir t_heardOne t_heardTwo t_heardMore 0 t_page t_says t_dealt t_farOf t_endMany t_endMost t_endLeast t_endFew t_seedNow t_saved t_isKept t_keptWill t_keptChanges t_keptHeard t_keptWorth t_keptThing t_keptChangesOf t_keptHeir t_keptOne t_keptTwo t_keptMore t_h  e6) gX7_will_X7_dealNow rfl ⟨rfl, rfl⟩ nd_X7_dealNow ⟨Nat.le_of_ble_eq_true rfl, Nat.le_of_ble_eq_true rfl⟩ 0 7 rfl rfl rfl hl.1 rfl (Nat.le_of_ble_eq_true rfl) dX7_will_158 (pm0 (w_X7 cI cB ad_t (t_wills + 1) t_heirs t_kindOf t_worthOf t_thingOf t_changesOf 0 0 t_heardHeir t_heardOne t_heardTwo t_heardMore 0 t_page t_says t_dealt t_farOf t_endMany t_endMost t_endLeast t_endFew t_seedNow t_saved t_isKept t_keptWill t_keptChanges t_keptHeard t_keptWorth t_keptThing t_keptChangesOf t_keptHeir t_keptOne t_keptTwo t_keptMore t_h)) (pm0 (w_X7 cI cB ad_t (t_wills + 1) t_heirs t_kindOf t_worthOf g3 t_changesOf 0 0 t_heardHeir t_heardOne t_heardTwo t_heardMore 0 t_page g4 g5 t_farOf t_endMany t_endMost t_endLeast t_endFew t_seedNow t_saved t_isKept t_keptWill t_keptChanges t_keptHeard t_keptWorth t_keptThing t_keptChangesOf t_keptHeir t_keptOne t_keptTwo t_keptMore t_h)) (fun H locs hP hD hS => ?_)
      refine lv_pop hx hb dX7_will_161 rfl ?_
      refine lv_aload_n hx hb dX7_will_162 rfl (lv_at hl 0 rfl) ?_
      refine gf F hP in_X7_will_X7 0 rfl rfl 1 (by decide) 2 rfl rfl dX7_will_163 ?_
      replace hf : (some (t_heirs, (t_wills + 1), t_heirs, t_kindOf, t_worthOf, g3, t_changesOf, 0, 0, 0, g4, g5) : Option (Int32 × Int32 × Int32 × (Nat → Int32) × (Nat → Int32) × (Nat → Int32) × (Nat → Int32) × Int32 × Int32 × Int32 × (Nat → Int32) × (Nat → Int32))) = some (rr, g_t_wills, g_t_heirs, g_t_kindOf, g_t_worthOf, g_t_thingOf, g_t_changesOf, g_t_changes, g_t_heard, g_t_pageLength, g_t_says, g_t_dealt) := hf
      cases hf
      exact ret_i F hP hS dX7_will_166
    · replace hf := (if_neg c1).symm.trans hf
      refine lv_aload_n hx hb dX7_will_55 rfl (lv_at hl 0 rfl) ?_
      refine gf F hP in_X7_will_X7 0 rfl rfl 2 (by decide) 3 rfl rfl dX7_will_56 ?_
      refine lv_iload_n hx hb dX7_will_59 rfl (lv_at hl 1 rfl) ?_
      refine lv_aload_n hx hb dX7_will_60 rfl (lv_at hl 0 rfl) ?_
      refine gf F hP in_X7_will_X7 0 rfl rfl 13 (by decide) 4 rfl rfl dX7_will_61 ?_
      refine lv_bipush (v := 6) hx hb dX7_will_64 (by decide) ?_
      refine lv_iload_n hx hb dX7_will_66 rfl (lv_at hl 1 rfl) ?_
      refine lv_imul hx hb dX7_will_67 ?_
      obtain ⟨v7, ev7, hf⟩ := bnd hf
      refine bld F hP 9 rfl ev7 dX7_will_68 ?_
      obtain ⟨v8, e9, hf⟩ := bnd hf
      refine cS F hP hD hS (k_X7_kindBy l  v7 e9) gX7_will_X7_kindBy rfl ⟨rfl, rfl⟩ nd_X7_kindBy ⟨Nat.le_of_ble_eq_true rfl, Nat.le_of_ble_eq_true rfl⟩ rfl hl.1 rfl (Nat.le_of_ble_eq_true rfl) dX7_will_69 (pmE (w_X7 cI cB ad_t t_wills t_heirs t_kindOf t_worthOf t_thingOf t_changesOf t_changes t_heard t_heardHeir t_heardOne t_heardTwo t_heardMore t_pageLength t_page t_says t_dealt t_farOf t_endMany t_endMost t_endLeast t_endFew t_seedNow t_saved t_isKept t_keptWill t_keptChanges t_keptHeard t_keptWorth t_keptThing t_keptChangesOf t_keptHeir t_keptOne t_keptTwo t_keptMore t_h)) (pmE (w_X7 cI cB ad_t t_wills t_heirs t_kindOf t_worthOf t_thingOf t_changesOf t_changes t_heard t_heardHeir t_heardOne t_heardTwo t_heardMore t_pageLength t_page t_says t_dealt t_farOf t_endMany t_endMost t_endLeast t_endFew t_seedNow t_saved t_isKept t_keptWill t_keptChanges t_keptHeard t_keptWorth t_keptThing t_keptChangesOf t_keptHeir t_keptOne t_keptTwo t_keptMore t_h)) (fun H locs hP hD hS => ?_)
      obtain ⟨g10, eg10, hf⟩ := bnd hf
      refine ast F hP hD hS 1 rfl eg10 dX7_will_72 (w_X7 cI cB ad_t t_wills t_heirs g10 t_worthOf t_thingOf t_changesOf t_changes t_heard t_heardHeir t_heardOne t_heardTwo t_heardMore t_pageLength t_page t_says t_dealt t_farOf t_endMany t_endMost t_endLeast t_endFew t_seedNow t_saved t_isKept t_keptWill t_keptChanges t_keptHeard t_keptWorth t_keptThing t_keptChangesOf t_keptHeir t_keptOne t_keptTwo t_keptMore t_h) rfl (fun H locs hP hD hS => ?_)
      refine lv_aload_n hx hb dX7_will_73 rfl (lv_at hl 0 rfl) ?_
      refine gf F hP in_X7_will_X7 0 rfl rfl 5 (by decide) 5 rfl rfl dX7_will_74 ?_
      refine lv_iload_n hx hb dX7_will_77 rfl (lv_at hl 1 rfl) ?_
      refine lv_iconst (v := 0) hx hb dX7_will_78 (by decide) ?_
      obtain ⟨g11, eg11, hf⟩ := bnd hf
      refine ast F hP hD hS 4 rfl eg11 dX7_will_79 (w_X7 cI cB ad_t t_wills t_heirs g10 t_worthOf t_thingOf g11 t_changes t_heard t_heardHeir t_heardOne t_heardTwo t_heardMore t_pageLength t_page t_says t_dealt t_farOf t_endMany t_endMost t_endLeast t_endFew t_seedNow t_saved t_isKept t_keptWill t_keptChanges t_keptHeard t_keptWorth t_keptThing t_keptChangesOf t_keptHeir t_keptOne t_keptTwo t_keptMore t_h) rfl (fun H locs hP hD hS => ?_)
      refine lv_aload_n hx hb dX7_will_80 rfl (lv_at hl 0 rfl) ?_
      refine gf F hP in_X7_will_X7 0 rfl rfl 4 (by decide) 6 rfl rfl dX7_will_81 ?_
      refine lv_iload_n hx hb dX7_will_84 rfl (lv_at hl 1 rfl) ?_
      refine lv_iconst (v := (-1)) hx hb dX7_will_85 (by decide) ?_
      obtain ⟨g12, eg12, hf⟩ := bnd hf
      refine ast F hP hD hS 3 rfl eg12 dX7_will_86 (w_X7 cI cB ad_t t_wills t_heirs g10 t_worthOf g12 g11 t_changes t_heard t_heardHeir t_heardOne t_heardTwo t_heardMore t_pageLength t_page t_says t_dealt t_farOf t_endMany t_endMost t_endLeast t_endFew t_seedNow t_saved t_isKept t_keptWill t_keptChanges t_keptHeard t_keptWorth t_keptThing t_keptChangesOf t_keptHeir t_keptOne t_keptTwo t_keptMore t_h) rfl (fun H locs hP hD hS => ?_)
      refine lv_iconst (v := 0) hx hb dX7_will_87 (by decide) ?_
      refine lv_istore_n (lv' := [(3, .int 0), (0, .ref (ad_t 0)), (2, .int x2)]) hx hb dX7_will_88 rfl hl (by decide) rfl (fun ls hl => ?_)
      exact b_X7_will_89 F (f_X7_will_47 t_page  n) ih 300 x2 0 t_wills t_heirs g10 t_worthOf g12 g11 t_changes t_heard t_pageLength t_says t_dealt H locs ls hP hD hS (lv_sub hl [1, 2, 0] rfl) hf

set_option maxHeartbeats 4000000 in
set_option maxRecDepth 100000 in
theorem k_X7_will (l : Launch) {D : va_G} {cI cB : ClassId} {kK kV : Nat → Nat} (ad_t : Nat → Nat) (t_wills : Int32) (t_heirs : Int32) (t_kindOf : Nat → Int32) (t_worthOf : Nat → Int32) (t_thingOf : Nat → Int32) (t_changesOf : Nat → Int32) (t_changes : Int32) (t_heard : Int32) (t_heardHeir : Nat → Int32) (t_heardOne : Nat → Int32) (t_heardTwo : Nat → Int32) (t_heardMore : Nat → Int32) (t_pageLength : Int32) (t_page : Nat → Int32) (t_says : Nat → Int32) (t_dealt : Nat → Int32) (t_farOf : Nat → Int32) (t_endMany : Int32) (t_endMost : Int32) (t_endLeast : Int32) (t_endFew : Int32) (t_seedNow : Int64) (t_saved : Nat → Int32) (t_isKept : Int32) (t_keptWill : Int32) (t_keptChanges : Int32) (t_keptHeard : Int32) (t_keptWorth : Nat → Int32) (t_keptThing : Nat → Int32) (t_keptChangesOf : Nat → Int32) (t_keptHeir : Nat → Int32) (t_keptOne : Nat → Int32) (t_keptTwo : Nat → Int32) (t_keptMore : Nat → Int32) (t_h : Int64)  {rr : Int32} {g_t_wills : Int32} {g_t_heirs : Int32} {g_t_kindOf : Nat → Int32} {g_t_worthOf : Nat → Int32} {g_t_thingOf : Nat → Int32} {g_t_changesOf : Nat → Int32} {g_t_changes : Int32} {g_t_heard : Int32} {g_t_pageLength : Int32} {g_t_says : Nat → Int32} {g_t_dealt : Nat → Int32} (hf : f_X7_will t_wills t_heirs t_kindOf t_worthOf t_thingOf t_changesOf t_changes t_heard t_pageLength t_page t_says t_dealt = some (rr, g_t_wills, g_t_heirs, g_t_kindOf, g_t_worthOf, g_t_thingOf, g_t_changesOf, g_t_changes, g_t_heard, g_t_pageLength, g_t_says, g_t_dealt)) : Ct l yX7_will wsX7_will rm_X7_will D cI cB kK kV [.ref (ad_t 0)] (w_X7 cI cB ad_t t_wills t_heirs t_kindOf t_worthOf t_thingOf t_changesOf t_changes t_heard t_heardHeir t_heardOne t_heardTwo t_heardMore t_pageLength t_page t_says t_dealt t_farOf t_endMany t_endMost t_endLeast t_endFew t_seedNow t_saved t_isKept t_keptWill t_keptChanges t_keptHeard t_keptWorth t_keptThing t_keptChangesOf t_keptHeir t_keptOne t_keptTwo t_keptMore t_h) (w_X7 cI cB ad_t g_t_wills g_t_heirs g_t_kindOf g_t_worthOf g_t_thingOf g_t_changesOf g_t_changes g_t_heard t_heardHeir t_heardOne t_heardTwo t_heardMore g_t_pageLength t_page g_t_says g_t_dealt t_farOf t_endMany t_endMost t_endLeast t_endFew t_seedNow t_saved t_isKept t_keptWill t_keptChanges t_keptHeard t_keptWorth t_keptThing t_keptChangesOf t_keptHeir t_keptOne t_keptTwo t_keptMore t_h) (some (.int rr)) := by
  refine Ct.of (cc := cX7_will) (maxL := 4) (ret := (some .int)) (by decide) rfl (Nat.le_of_ble_eq_true rfl) rfl ?_
  intro p e s m below meth c A ls F hP hD hS hl
  have hl : lv_has ls 4 [(0, .ref (ad_t 0))] := hl
  obtain ⟨hx, hb, hml, hown, hts, hrt, hlocks, hK, hA, hZ⟩ := id F
  obtain ⟨H, hH⟩ : ∃ H, H = s.heap := ⟨_, rfl⟩
  obtain ⟨locs, hLo⟩ : ∃ q : List Loc, q = [] := ⟨_, rfl⟩
  refine (?_ : W p l e rm_X7_will s m _ below meth c s.heap [] 0 0 _ _)
  rw [← hH, ← hLo]
  rw [← hH] at hP
  have hS : va_S A s.heap H locs := by rw [hH, hLo]; exact hS
  refine lv_aload_n hx hb dX7_will_0 rfl (lv_at hl 0 rfl) ?_
  refine gf F hP in_X7_will_X7 0 rfl rfl 12 (by decide) 1 rfl rfl dX7_will_1 ?_
  refine lv_iconst (v := 1) hx hb dX7_will_4 (by decide) ?_
  refine lv_iadd hx hb dX7_will_5 ?_
  refine lv_bipush (v := 6) hx hb dX7_will_6 (by decide) ?_
  refine lv_idiv hx hb dX7_will_8 (by decide) ?_
  refine lv_istore_n (lv' := [(1, .int ((t_pageLength + 1) / 6)), (0, .ref (ad_t 0))]) hx hb dX7_will_9 rfl hl (by decide) rfl (fun ls hl => ?_)
  refine lv_aload_n hx hb dX7_will_10 rfl (lv_at hl 1 rfl) ?_
  obtain ⟨v1, e2, hf⟩ := bnd hf
  refine cV F hP hD hS (k_X7_faultNow l ad_t t_wills t_heirs t_kindOf t_worthOf t_thingOf t_changesOf t_changes t_heard t_heardHeir t_heardOne t_heardTwo t_heardMore t_pageLength t_page t_says t_dealt t_farOf t_endMany t_endMost t_endLeast t_endFew t_seedNow t_saved t_isKept t_keptWill t_keptChanges t_keptHeard t_keptWorth t_keptThing t_keptChangesOf t_keptHeir t_keptOne t_keptTwo t_keptMore t_h  e2) gX7_will_X7_faultNow rfl ⟨rfl, rfl⟩ nd_X7_faultNow ⟨Nat.le_of_ble_eq_true rfl, Nat.le_of_ble_eq_true rfl⟩ 0 7 rfl rfl rfl hl.1 rfl (Nat.le_of_ble_eq_true rfl) dX7_will_11 (pm0 (w_X7 cI cB ad_t t_wills t_heirs t_kindOf t_worthOf t_thingOf t_changesOf t_changes t_heard t_heardHeir t_heardOne t_heardTwo t_heardMore t_pageLength t_page t_says t_dealt t_farOf t_endMany t_endMost t_endLeast t_endFew t_seedNow t_saved t_isKept t_keptWill t_keptChanges t_keptHeard t_keptWorth t_keptThing t_keptChangesOf t_keptHeir t_keptOne t_keptTwo t_keptMore t_h)) (pm0 (w_X7 cI cB ad_t t_wills t_heirs t_kindOf t_worthOf t_thingOf t_changesOf t_changes t_heard t_heardHeir t_heardOne t_heardTwo t_heardMore t_pageLength t_page t_says t_dealt t_farOf t_endMany t_endMost t_endLeast t_endFew t_seedNow t_saved t_isKept t_keptWill t_keptChanges t_keptHeard t_keptWorth t_keptThing t_keptChangesOf t_keptHeir t_keptOne t_keptTwo t_keptMore t_h)) (fun H locs hP hD hS => ?_)
  refine lv_aload_n hx hb dX7_will_14 rfl (lv_at hl 1 rfl) ?_
  refine gf F hP in_X7_will_X7 0 rfl rfl 12 (by decide) 1 rfl rfl dX7_will_15 ?_
  refine lv_icmp_ne (tgt := 37) hx hb dX7_will_18 (by decide) (fun c3 => ?_) (fun c3 => ?_)
  · replace hf := (if_neg c3).symm.trans hf
    refine lv_bipush (v := (-103)) hx hb dX7_will_37 (by decide) ?_
    replace hf : (some ((-103), t_wills, t_heirs, t_kindOf, t_worthOf, t_thingOf, t_changesOf, t_changes, t_heard, t_pageLength, t_says, t_dealt) : Option (Int32 × Int32 × Int32 × (Nat → Int32) × (Nat → Int32) × (Nat → Int32) × (Nat → Int32) × Int32 × Int32 × Int32 × (Nat → Int32) × (Nat → Int32))) = some (rr, g_t_wills, g_t_heirs, g_t_kindOf, g_t_worthOf, g_t_thingOf, g_t_changesOf, g_t_changes, g_t_heard, g_t_pageLength, g_t_says, g_t_dealt) := hf
    cases hf
    exact ret_i F hP hS dX7_will_39
  · replace hf := (if_pos c3).symm.trans hf
    refine lv_aload_n hx hb dX7_will_21 rfl (lv_at hl 1 rfl) ?_
    refine gf F hP in_X7_will_X7 0 rfl rfl 12 (by decide) 1 rfl rfl dX7_will_22 ?_
    refine lv_bipush (v := 6) hx hb dX7_will_25 (by decide) ?_
    refine lv_irem hx hb dX7_will_27 (by decide) ?_
    refine lv_iconst (v := 5) hx hb dX7_will_28 (by decide) ?_
    refine lv_icmp_ne (tgt := 37) hx hb dX7_will_29 (by decide) (fun c4 => ?_) (fun c4 => ?_)
    · replace hf := (if_neg c4).symm.trans hf
      refine lv_bipush (v := (-103)) hx hb dX7_will_37 (by decide) ?_
      replace hf : (some ((-103), t_wills, t_heirs, t_kindOf, t_worthOf, t_thingOf, t_changesOf, t_changes, t_heard, t_pageLength, t_says, t_dealt) : Option (Int32 × Int32 × Int32 × (Nat → Int32) × (Nat → Int32) × (Nat → Int32) × (Nat → Int32) × Int32 × Int32 × Int32 × (Nat → Int32) × (Nat → Int32))) = some (rr, g_t_wills, g_t_heirs, g_t_kindOf, g_t_worthOf, g_t_thingOf, g_t_changesOf, g_t_changes, g_t_heard, g_t_pageLength, g_t_says, g_t_dealt) := hf
      cases hf
      exact ret_i F hP hS dX7_will_39
    · replace hf := (if_pos c4).symm.trans hf
      refine lv_iload_n hx hb dX7_will_32 rfl (lv_at hl 0 rfl) ?_
      refine lv_iconst (v := 2) hx hb dX7_will_33 (by decide) ?_
      refine lv_icmp_ge (tgt := 40) hx hb dX7_will_34 (by decide) (fun c5 => ?_) (fun c5 => ?_)
      · replace hf := (if_pos c5).symm.trans hf
        refine lv_aload_n hx hb dX7_will_40 rfl (lv_at hl 1 rfl) ?_
        refine lv_iload_n hx hb dX7_will_41 rfl (lv_at hl 0 rfl) ?_
        refine pf F hP hD hS in_X7_will_X7 tyX7 tyX7_ok nmX7 0 rfl rfl 1 (by decide) 2 rfl rfl rfl rfl (Nat.le_of_ble_eq_true rfl) dX7_will_42 (w_X7 cI cB ad_t t_wills ((t_pageLength + 1) / 6) t_kindOf t_worthOf t_thingOf t_changesOf t_changes t_heard t_heardHeir t_heardOne t_heardTwo t_heardMore t_pageLength t_page t_says t_dealt t_farOf t_endMany t_endMost t_endLeast t_endFew t_seedNow t_saved t_isKept t_keptWill t_keptChanges t_keptHeard t_keptWorth t_keptThing t_keptChangesOf t_keptHeir t_keptOne t_keptTwo t_keptMore t_h) rfl (fun H locs hP hD hS => ?_)
        refine lv_iconst (v := 0) hx hb dX7_will_45 (by decide) ?_
        refine lv_istore_n (lv' := [(2, .int 0), (1, .int ((t_pageLength + 1) / 6)), (0, .ref (ad_t 0))]) hx hb dX7_will_46 rfl hl (by decide) rfl (fun ls hl => ?_)
        exact b_X7_will_47 F 300 0 t_wills ((t_pageLength + 1) / 6) t_kindOf t_worthOf t_thingOf t_changesOf t_changes t_heard t_pageLength t_says t_dealt H locs ls hP hD hS (lv_sub hl [2, 0] rfl) hf
      · replace hf := (if_neg c5).symm.trans hf
        refine lv_bipush (v := (-103)) hx hb dX7_will_37 (by decide) ?_
        replace hf : (some ((-103), t_wills, t_heirs, t_kindOf, t_worthOf, t_thingOf, t_changesOf, t_changes, t_heard, t_pageLength, t_says, t_dealt) : Option (Int32 × Int32 × Int32 × (Nat → Int32) × (Nat → Int32) × (Nat → Int32) × (Nat → Int32) × Int32 × Int32 × Int32 × (Nat → Int32) × (Nat → Int32))) = some (rr, g_t_wills, g_t_heirs, g_t_kindOf, g_t_worthOf, g_t_thingOf, g_t_changesOf, g_t_changes, g_t_heard, g_t_pageLength, g_t_says, g_t_dealt) := hf
        cases hf
        exact ret_i F hP hS dX7_will_39

/-! X7_isHeir -/
def rm_X7_isHeir : Room := { frames := 1, cells := 0, slots := 0, locals := 22 }
theorem in_X7_isHeir_X7 : ∀ w ∈ u_ws RX7 TX7 35, w ∈ wsX7_isHeir := fun _ h => List.mem_cons_of_mem _ (List.mem_append_right _ (h))
theorem nd_X7_isHeir : yX7_isHeir.cls = RX7 ∧ yX7_isHeir.cls ≠ "java/lang/invoke/MethodHandle" ∧ yX7_isHeir.cls ≠ "java/lang/invoke/VarHandle" ∧ (parseMethodDescriptor yX7_isHeir.desc).map (fun d => d.parameters.length) = some 1 := by decide +kernel
def f_X7_isHeir (t_heirs : Int32) (x1 : Int32) : Option (Int32) := (f_X7_within x1 0 (t_heirs - 1)).bind (fun v1 => (bz v1).bind (fun b3 => some b3))
set_option maxHeartbeats 4000000 in
set_option maxRecDepth 100000 in
theorem k_X7_isHeir (l : Launch) {D : va_G} {cI cB : ClassId} {kK kV : Nat → Nat} (ad_t : Nat → Nat) (t_wills : Int32) (t_heirs : Int32) (t_kindOf : Nat → Int32) (t_worthOf : Nat → Int32) (t_thingOf : Nat → Int32) (t_changesOf : Nat → Int32) (t_changes : Int32) (t_heard : Int32) (t_heardHeir : Nat → Int32) (t_heardOne : Nat → Int32) (t_heardTwo : Nat → Int32) (t_heardMore : Nat → Int32) (t_pageLength : Int32) (t_page : Nat → Int32) (t_says : Nat → Int32) (t_dealt : Nat → Int32) (t_farOf : Nat → Int32) (t_endMany : Int32) (t_endMost : Int32) (t_endLeast : Int32) (t_endFew : Int32) (t_seedNow : Int64) (t_saved : Nat → Int32) (t_isKept : Int32) (t_keptWill : Int32) (t_keptChanges : Int32) (t_keptHeard : Int32) (t_keptWorth : Nat → Int32) (t_keptThing : Nat → Int32) (t_keptChangesOf : Nat → Int32) (t_keptHeir : Nat → Int32) (t_keptOne : Nat → Int32) (t_keptTwo : Nat → Int32) (t_keptMore : Nat → Int32) (t_h : Int64) (x1 : Int32) {rr : Int32}  (hf : f_X7_isHeir t_heirs x1 = some rr) : Ct l yX7_isHeir wsX7_isHeir rm_X7_isHeir D cI cB kK kV [.ref (ad_t 0), .int x1] (w_X7 cI cB ad_t t_wills t_heirs t_kindOf t_worthOf t_thingOf t_changesOf t_changes t_heard t_heardHeir t_heardOne t_heardTwo t_heardMore t_pageLength t_page t_says t_dealt t_farOf t_endMany t_endMost t_endLeast t_endFew t_seedNow t_saved t_isKept t_keptWill t_keptChanges t_keptHeard t_keptWorth t_keptThing t_keptChangesOf t_keptHeir t_keptOne t_keptTwo t_keptMore t_h) (w_X7 cI cB ad_t t_wills t_heirs t_kindOf t_worthOf t_thingOf t_changesOf t_changes t_heard t_heardHeir t_heardOne t_heardTwo t_heardMore t_pageLength t_page t_says t_dealt t_farOf t_endMany t_endMost t_endLeast t_endFew t_seedNow t_saved t_isKept t_keptWill t_keptChanges t_keptHeard t_keptWorth t_keptThing t_keptChangesOf t_keptHeir t_keptOne t_keptTwo t_keptMore t_h) (some (.int rr)) := by
  refine Ct.of (cc := cX7_isHeir) (maxL := 2) (ret := (some .boolean)) (by decide) rfl (Nat.le_of_ble_eq_true rfl) rfl ?_
  intro p e s m below meth c A ls F hP hD hS hl
  have hl : lv_has ls 2 [(0, .ref (ad_t 0)), (1, .int x1)] := hl
  obtain ⟨hx, hb, hml, hown, hts, hrt, hlocks, hK, hA, hZ⟩ := id F
  obtain ⟨H, hH⟩ : ∃ H, H = s.heap := ⟨_, rfl⟩
  obtain ⟨locs, hLo⟩ : ∃ q : List Loc, q = [] := ⟨_, rfl⟩
  refine (?_ : W p l e rm_X7_isHeir s m _ below meth c s.heap [] 0 0 _ _)
  rw [← hH, ← hLo]
  rw [← hH] at hP
  have hS : va_S A s.heap H locs := by rw [hH, hLo]; exact hS
  refine lv_iload_n hx hb dX7_isHeir_0 rfl (lv_at hl 1 rfl) ?_
  refine lv_iconst (v := 0) hx hb dX7_isHeir_1 (by decide) ?_
  refine lv_aload_n hx hb dX7_isHeir_2 rfl (lv_at hl 0 rfl) ?_
  refine gf F hP in_X7_isHeir_X7 0 rfl rfl 1 (by decide) 1 rfl rfl dX7_isHeir_3 ?_
  refine lv_iconst (v := 1) hx hb dX7_isHeir_6 (by decide) ?_
  refine lv_isub hx hb dX7_isHeir_7 ?_
  obtain ⟨v1, e2, hf⟩ := bnd hf
  refine cS F hP hD hS (k_X7_within l  x1 0 (t_heirs - 1) e2) gX7_isHeir_X7_within rfl ⟨rfl, rfl⟩ nd_X7_within ⟨Nat.le_of_ble_eq_true rfl, Nat.le_of_ble_eq_true rfl⟩ rfl hl.1 rfl (Nat.le_of_ble_eq_true rfl) dX7_isHeir_8 (pmE (w_X7 cI cB ad_t t_wills t_heirs t_kindOf t_worthOf t_thingOf t_changesOf t_changes t_heard t_heardHeir t_heardOne t_heardTwo t_heardMore t_pageLength t_page t_says t_dealt t_farOf t_endMany t_endMost t_endLeast t_endFew t_seedNow t_saved t_isKept t_keptWill t_keptChanges t_keptHeard t_keptWorth t_keptThing t_keptChangesOf t_keptHeir t_keptOne t_keptTwo t_keptMore t_h)) (pmE (w_X7 cI cB ad_t t_wills t_heirs t_kindOf t_worthOf t_thingOf t_changesOf t_changes t_heard t_heardHeir t_heardOne t_heardTwo t_heardMore t_pageLength t_page t_says t_dealt t_farOf t_endMany t_endMost t_endLeast t_endFew t_seedNow t_saved t_isKept t_keptWill t_keptChanges t_keptHeard t_keptWorth t_keptThing t_keptChangesOf t_keptHeir t_keptOne t_keptTwo t_keptMore t_h)) (fun H locs hP hD hS => ?_)
  obtain ⟨b3, eb3, hf⟩ := bnd hf
  obtain ⟨nb3, qb3⟩ := bz_some eb3
  rw [qb3] at nb3
  refine teqi qb3 ?_
  replace hf : (some b3 : Option (Int32)) = some rr := hf
  cases hf
  exact ret_z F nb3 hP hS dX7_isHeir_11

/-! X7_isThing -/
def rm_X7_isThing : Room := { frames := 1, cells := 0, slots := 0, locals := 22 }
theorem in_X7_isThing_X7 : ∀ w ∈ u_ws RX7 TX7 35, w ∈ wsX7_isThing := fun _ h => List.mem_cons_of_mem _ (List.mem_append_right _ (h))
theorem nd_X7_isThing : yX7_isThing.cls = RX7 ∧ yX7_isThing.cls ≠ "java/lang/invoke/MethodHandle" ∧ yX7_isThing.cls ≠ "java/lang/invoke/VarHandle" ∧ (parseMethodDescriptor yX7_isThing.desc).map (fun d => d.parameters.length) = some 1 := by decide +kernel
def f_X7_isThing (t_heirs : Int32) (x1 : Int32) : Option (Int32) := (if t_heirs ≤ 0 then some 0 else (f_X7_within x1 0 3).bind (fun v2 => (if v2 = 0 then some 0 else some 1)))
set_option maxHeartbeats 4000000 in
set_option maxRecDepth 100000 in
theorem k_X7_isThing (l : Launch) {D : va_G} {cI cB : ClassId} {kK kV : Nat → Nat} (ad_t : Nat → Nat) (t_wills : Int32) (t_heirs : Int32) (t_kindOf : Nat → Int32) (t_worthOf : Nat → Int32) (t_thingOf : Nat → Int32) (t_changesOf : Nat → Int32) (t_changes : Int32) (t_heard : Int32) (t_heardHeir : Nat → Int32) (t_heardOne : Nat → Int32) (t_heardTwo : Nat → Int32) (t_heardMore : Nat → Int32) (t_pageLength : Int32) (t_page : Nat → Int32) (t_says : Nat → Int32) (t_dealt : Nat → Int32) (t_farOf : Nat → Int32) (t_endMany : Int32) (t_endMost : Int32) (t_endLeast : Int32) (t_endFew : Int32) (t_seedNow : Int64) (t_saved : Nat → Int32) (t_isKept : Int32) (t_keptWill : Int32) (t_keptChanges : Int32) (t_keptHeard : Int32) (t_keptWorth : Nat → Int32) (t_keptThing : Nat → Int32) (t_keptChangesOf : Nat → Int32) (t_keptHeir : Nat → Int32) (t_keptOne : Nat → Int32) (t_keptTwo : Nat → Int32) (t_keptMore : Nat → Int32) (t_h : Int64) (x1 : Int32) {rr : Int32}  (hf : f_X7_isThing t_heirs x1 = some rr) : Ct l yX7_isThing wsX7_isThing rm_X7_isThing D cI cB kK kV [.ref (ad_t 0), .int x1] (w_X7 cI cB ad_t t_wills t_heirs t_kindOf t_worthOf t_thingOf t_changesOf t_changes t_heard t_heardHeir t_heardOne t_heardTwo t_heardMore t_pageLength t_page t_says t_dealt t_farOf t_endMany t_endMost t_endLeast t_endFew t_seedNow t_saved t_isKept t_keptWill t_keptChanges t_keptHeard t_keptWorth t_keptThing t_keptChangesOf t_keptHeir t_keptOne t_keptTwo t_keptMore t_h) (w_X7 cI cB ad_t t_wills t_heirs t_kindOf t_worthOf t_thingOf t_changesOf t_changes t_heard t_heardHeir t_heardOne t_heardTwo t_heardMore t_pageLength t_page t_says t_dealt t_farOf t_endMany t_endMost t_endLeast t_endFew t_seedNow t_saved t_isKept t_keptWill t_keptChanges t_keptHeard t_keptWorth t_keptThing t_keptChangesOf t_keptHeir t_keptOne t_keptTwo t_keptMore t_h) (some (.int rr)) := by
  refine Ct.of (cc := cX7_isThing) (maxL := 2) (ret := (some .boolean)) (by decide) rfl (Nat.le_of_ble_eq_true rfl) rfl ?_
  intro p e s m below meth c A ls F hP hD hS hl
  have hl : lv_has ls 2 [(0, .ref (ad_t 0)), (1, .int x1)] := hl
  obtain ⟨hx, hb, hml, hown, hts, hrt, hlocks, hK, hA, hZ⟩ := id F
  obtain ⟨H, hH⟩ : ∃ H, H = s.heap := ⟨_, rfl⟩
  obtain ⟨locs, hLo⟩ : ∃ q : List Loc, q = [] := ⟨_, rfl⟩
  refine (?_ : W p l e rm_X7_isThing s m _ below meth c s.heap [] 0 0 _ _)
  rw [← hH, ← hLo]
  rw [← hH] at hP
  have hS : va_S A s.heap H locs := by rw [hH, hLo]; exact hS
  refine lv_aload_n hx hb dX7_isThing_0 rfl (lv_at hl 0 rfl) ?_
  refine gf F hP in_X7_isThing_X7 0 rfl rfl 1 (by decide) 1 rfl rfl dX7_isThing_1 ?_
  refine lv_if_le (tgt := 20) hx hb dX7_isThing_4 (by decide) (fun c1 => ?_) (fun c1 => ?_)
  · replace hf := (if_pos c1).symm.trans hf
    refine lv_iconst (v := 0) hx hb dX7_isThing_20 (by decide) ?_
    replace hf : (some 0 : Option (Int32)) = some rr := hf
    cases hf
    exact ret_z F rfl hP hS dX7_isThing_21
  · replace hf := (if_neg c1).symm.trans hf
    refine lv_iload_n hx hb dX7_isThing_7 rfl (lv_at hl 1 rfl) ?_
    refine lv_iconst (v := 0) hx hb dX7_isThing_8 (by decide) ?_
    refine lv_iconst (v := 3) hx hb dX7_isThing_9 (by decide) ?_
    obtain ⟨v2, e3, hf⟩ := bnd hf
    refine cS F hP hD hS (k_X7_within l  x1 0 3 e3) gX7_isThing_X7_within rfl ⟨rfl, rfl⟩ nd_X7_within ⟨Nat.le_of_ble_eq_true rfl, Nat.le_of_ble_eq_true rfl⟩ rfl hl.1 rfl (Nat.le_of_ble_eq_true rfl) dX7_isThing_10 (pmE (w_X7 cI cB ad_t t_wills t_heirs t_kindOf t_worthOf t_thingOf t_changesOf t_changes t_heard t_heardHeir t_heardOne t_heardTwo t_heardMore t_pageLength t_page t_says t_dealt t_farOf t_endMany t_endMost t_endLeast t_endFew t_seedNow t_saved t_isKept t_keptWill t_keptChanges t_keptHeard t_keptWorth t_keptThing t_keptChangesOf t_keptHeir t_keptOne t_keptTwo t_keptMore t_h)) (pmE (w_X7 cI cB ad_t t_wills t_heirs t_kindOf t_worthOf t_thingOf t_changesOf t_changes t_heard t_heardHeir t_heardOne t_heardTwo t_heardMore t_pageLength t_page t_says t_dealt t_farOf t_endMany t_endMost t_endLeast t_endFew t_seedNow t_saved t_isKept t_keptWill t_keptChanges t_keptHeard t_keptWorth t_keptThing t_keptChangesOf t_keptHeir t_keptOne t_keptTwo t_keptMore t_h)) (fun H locs hP hD hS => ?_)
    refine lv_if_eq (tgt := 20) hx hb dX7_isThing_13 (by decide) (fun c4 => ?_) (fun c4 => ?_)
    · replace hf := (if_pos c4).symm.trans hf
      refine lv_iconst (v := 0) hx hb dX7_isThing_20 (by decide) ?_
      replace hf : (some 0 : Option (Int32)) = some rr := hf
      cases hf
      exact ret_z F rfl hP hS dX7_isThing_21
    · replace hf := (if_neg c4).symm.trans hf
      refine lv_iconst (v := 1) hx hb dX7_isThing_16 (by decide) ?_
      refine lv_goto (tgt := 21) hx hb dX7_isThing_17 (by decide) ?_
      replace hf : (some 1 : Option (Int32)) = some rr := hf
      cases hf
      exact ret_z F rfl hP hS dX7_isThing_21

/-! X7_isContent -/
def rm_X7_isContent : Room := { frames := 0, cells := 0, slots := 0, locals := 0 }
theorem in_X7_isContent_X7 : ∀ w ∈ u_ws RX7 TX7 35, w ∈ wsX7_isContent := fun _ h => List.mem_cons_of_mem _ (List.mem_append_right _ (h))
theorem nd_X7_isContent : yX7_isContent.cls = RX7 ∧ yX7_isContent.cls ≠ "java/lang/invoke/MethodHandle" ∧ yX7_isContent.cls ≠ "java/lang/invoke/VarHandle" ∧ (parseMethodDescriptor yX7_isContent.desc).map (fun d => d.parameters.length) = some 1 := by decide +kernel
def f_X7_isContent (t_worthOf : Nat → Int32) (t_thingOf : Nat → Int32) (x1 : Int32) : Option (Int32) := (rd t_thingOf 4 x1).bind (fun v1 => (rd t_worthOf 16 ((4 * x1) + v1)).bind (fun v2 => (if v2 < 5 then some 0 else some 1)))
set_option maxHeartbeats 4000000 in
set_option maxRecDepth 100000 in
theorem k_X7_isContent (l : Launch) {D : va_G} {cI cB : ClassId} {kK kV : Nat → Nat} (ad_t : Nat → Nat) (t_wills : Int32) (t_heirs : Int32) (t_kindOf : Nat → Int32) (t_worthOf : Nat → Int32) (t_thingOf : Nat → Int32) (t_changesOf : Nat → Int32) (t_changes : Int32) (t_heard : Int32) (t_heardHeir : Nat → Int32) (t_heardOne : Nat → Int32) (t_heardTwo : Nat → Int32) (t_heardMore : Nat → Int32) (t_pageLength : Int32) (t_page : Nat → Int32) (t_says : Nat → Int32) (t_dealt : Nat → Int32) (t_farOf : Nat → Int32) (t_endMany : Int32) (t_endMost : Int32) (t_endLeast : Int32) (t_endFew : Int32) (t_seedNow : Int64) (t_saved : Nat → Int32) (t_isKept : Int32) (t_keptWill : Int32) (t_keptChanges : Int32) (t_keptHeard : Int32) (t_keptWorth : Nat → Int32) (t_keptThing : Nat → Int32) (t_keptChangesOf : Nat → Int32) (t_keptHeir : Nat → Int32) (t_keptOne : Nat → Int32) (t_keptTwo : Nat → Int32) (t_keptMore : Nat → Int32) (t_h : Int64) (x1 : Int32) {rr : Int32}  (hf : f_X7_isContent t_worthOf t_thingOf x1 = some rr) : Ct l yX7_isContent wsX7_isContent rm_X7_isContent D cI cB kK kV [.ref (ad_t 0), .int x1] (w_X7 cI cB ad_t t_wills t_heirs t_kindOf t_worthOf t_thingOf t_changesOf t_changes t_heard t_heardHeir t_heardOne t_heardTwo t_heardMore t_pageLength t_page t_says t_dealt t_farOf t_endMany t_endMost t_endLeast t_endFew t_seedNow t_saved t_isKept t_keptWill t_keptChanges t_keptHeard t_keptWorth t_keptThing t_keptChangesOf t_keptHeir t_keptOne t_keptTwo t_keptMore t_h) (w_X7 cI cB ad_t t_wills t_heirs t_kindOf t_worthOf t_thingOf t_changesOf t_changes t_heard t_heardHeir t_heardOne t_heardTwo t_heardMore t_pageLength t_page t_says t_dealt t_farOf t_endMany t_endMost t_endLeast t_endFew t_seedNow t_saved t_isKept t_keptWill t_keptChanges t_keptHeard t_keptWorth t_keptThing t_keptChangesOf t_keptHeir t_keptOne t_keptTwo t_keptMore t_h) (some (.int rr)) := by
  refine Ct.of (cc := cX7_isContent) (maxL := 2) (ret := (some .boolean)) (by decide) rfl (Nat.le_of_ble_eq_true rfl) rfl ?_
  intro p e s m below meth c A ls F hP hD hS hl
  have hl : lv_has ls 2 [(0, .ref (ad_t 0)), (1, .int x1)] := hl
  obtain ⟨hx, hb, hml, hown, hts, hrt, hlocks, hK, hA, hZ⟩ := id F
  obtain ⟨H, hH⟩ : ∃ H, H = s.heap := ⟨_, rfl⟩
  obtain ⟨locs, hLo⟩ : ∃ q : List Loc, q = [] := ⟨_, rfl⟩
  refine (?_ : W p l e rm_X7_isContent s m _ below meth c s.heap [] 0 0 _ _)
  rw [← hH, ← hLo]
  rw [← hH] at hP
  have hS : va_S A s.heap H locs := by rw [hH, hLo]; exact hS
  refine lv_aload_n hx hb dX7_isContent_0 rfl (lv_at hl 0 rfl) ?_
  refine gf F hP in_X7_isContent_X7 0 rfl rfl 3 (by decide) 1 rfl rfl dX7_isContent_1 ?_
  refine lv_iconst (v := 4) hx hb dX7_isContent_4 (by decide) ?_
  refine lv_iload_n hx hb dX7_isContent_5 rfl (lv_at hl 1 rfl) ?_
  refine lv_imul hx hb dX7_isContent_6 ?_
  refine lv_aload_n hx hb dX7_isContent_7 rfl (lv_at hl 0 rfl) ?_
  refine gf F hP in_X7_isContent_X7 0 rfl rfl 4 (by decide) 2 rfl rfl dX7_isContent_8 ?_
  refine lv_iload_n hx hb dX7_isContent_11 rfl (lv_at hl 1 rfl) ?_
  obtain ⟨v1, ev1, hf⟩ := bnd hf
  refine ald F hP 3 rfl ev1 dX7_isContent_12 ?_
  refine lv_iadd hx hb dX7_isContent_13 ?_
  obtain ⟨v2, ev2, hf⟩ := bnd hf
  refine ald F hP 2 rfl ev2 dX7_isContent_14 ?_
  refine lv_iconst (v := 5) hx hb dX7_isContent_15 (by decide) ?_
  refine lv_icmp_lt (tgt := 23) hx hb dX7_isContent_16 (by decide) (fun c3 => ?_) (fun c3 => ?_)
  · replace hf := (if_pos c3).symm.trans hf
    refine lv_iconst (v := 0) hx hb dX7_isContent_23 (by decide) ?_
    replace hf : (some 0 : Option (Int32)) = some rr := hf
    cases hf
    exact ret_z F rfl hP hS dX7_isContent_24
  · replace hf := (if_neg c3).symm.trans hf
    refine lv_iconst (v := 1) hx hb dX7_isContent_19 (by decide) ?_
    refine lv_goto (tgt := 24) hx hb dX7_isContent_20 (by decide) ?_
    replace hf : (some 1 : Option (Int32)) = some rr := hf
    cases hf
    exact ret_z F rfl hP hS dX7_isContent_24

/-! X7_saysNow -/
def rm_X7_saysNow : Room := { frames := 2, cells := 0, slots := 0, locals := 45 }
theorem in_X7_saysNow_X7 : ∀ w ∈ u_ws RX7 TX7 35, w ∈ wsX7_saysNow := fun _ h => List.mem_cons_of_mem _ (List.mem_append_right _ (h))
theorem nd_X7_saysNow : yX7_saysNow.cls = RX7 ∧ yX7_saysNow.cls ≠ "java/lang/invoke/MethodHandle" ∧ yX7_saysNow.cls ≠ "java/lang/invoke/VarHandle" ∧ (parseMethodDescriptor yX7_saysNow.desc).map (fun d => d.parameters.length) = some 2 := by decide +kernel
def f_X7_saysNow (t_heirs : Int32) (t_kindOf : Nat → Int32) (t_worthOf : Nat → Int32) (t_says : Nat → Int32) (x1 : Int32) (x2 : Int32) : Option (Int32 × (Nat → Int32)) := (f_X7_laySays t_heirs t_kindOf t_worthOf t_says).bind (fun g1 => (rd g1 16 ((4 * x1) + x2)).bind (fun v3 => some (v3, g1)))
set_option maxHeartbeats 4000000 in
set_option maxRecDepth 100000 in
theorem k_X7_saysNow (l : Launch) {D : va_G} {cI cB : ClassId} {kK kV : Nat → Nat} (ad_t : Nat → Nat) (t_wills : Int32) (t_heirs : Int32) (t_kindOf : Nat → Int32) (t_worthOf : Nat → Int32) (t_thingOf : Nat → Int32) (t_changesOf : Nat → Int32) (t_changes : Int32) (t_heard : Int32) (t_heardHeir : Nat → Int32) (t_heardOne : Nat → Int32) (t_heardTwo : Nat → Int32) (t_heardMore : Nat → Int32) (t_pageLength : Int32) (t_page : Nat → Int32) (t_says : Nat → Int32) (t_dealt : Nat → Int32) (t_farOf : Nat → Int32) (t_endMany : Int32) (t_endMost : Int32) (t_endLeast : Int32) (t_endFew : Int32) (t_seedNow : Int64) (t_saved : Nat → Int32) (t_isKept : Int32) (t_keptWill : Int32) (t_keptChanges : Int32) (t_keptHeard : Int32) (t_keptWorth : Nat → Int32) (t_keptThing : Nat → Int32) (t_keptChangesOf : Nat → Int32) (t_keptHeir : Nat → Int32) (t_keptOne : Nat → Int32) (t_keptTwo : Nat → Int32) (t_keptMore : Nat → Int32) (t_h : Int64) (x1 : Int32) (x2 : Int32) {rr : Int32} {g_t_says : Nat → Int32} (hf : f_X7_saysNow t_heirs t_kindOf t_worthOf t_says x1 x2 = some (rr, g_t_says)) : Ct l yX7_saysNow wsX7_saysNow rm_X7_saysNow D cI cB kK kV [.ref (ad_t 0), .int x1, .int x2] (w_X7 cI cB ad_t t_wills t_heirs t_kindOf t_worthOf t_thingOf t_changesOf t_changes t_heard t_heardHeir t_heardOne t_heardTwo t_heardMore t_pageLength t_page t_says t_dealt t_farOf t_endMany t_endMost t_endLeast t_endFew t_seedNow t_saved t_isKept t_keptWill t_keptChanges t_keptHeard t_keptWorth t_keptThing t_keptChangesOf t_keptHeir t_keptOne t_keptTwo t_keptMore t_h) (w_X7 cI cB ad_t t_wills t_heirs t_kindOf t_worthOf t_thingOf t_changesOf t_changes t_heard t_heardHeir t_heardOne t_heardTwo t_heardMore t_pageLength t_page g_t_says t_dealt t_farOf t_endMany t_endMost t_endLeast t_endFew t_seedNow t_saved t_isKept t_keptWill t_keptChanges t_keptHeard t_keptWorth t_keptThing t_keptChangesOf t_keptHeir t_keptOne t_keptTwo t_keptMore t_h) (some (.int rr)) := by
  refine Ct.of (cc := cX7_saysNow) (maxL := 3) (ret := (some .int)) (by decide) rfl (Nat.le_of_ble_eq_true rfl) rfl ?_
  intro p e s m below meth c A ls F hP hD hS hl
  have hl : lv_has ls 3 [(0, .ref (ad_t 0)), (1, .int x1), (2, .int x2)] := hl
  obtain ⟨hx, hb, hml, hown, hts, hrt, hlocks, hK, hA, hZ⟩ := id F
  obtain ⟨H, hH⟩ : ∃ H, H = s.heap := ⟨_, rfl⟩
  obtain ⟨locs, hLo⟩ : ∃ q : List Loc, q = [] := ⟨_, rfl⟩
  refine (?_ : W p l e rm_X7_saysNow s m _ below meth c s.heap [] 0 0 _ _)
  rw [← hH, ← hLo]
  rw [← hH] at hP
  have hS : va_S A s.heap H locs := by rw [hH, hLo]; exact hS
  refine lv_aload_n hx hb dX7_saysNow_0 rfl (lv_at hl 0 rfl) ?_
  obtain ⟨g1, e2, hf⟩ := bnd hf
  refine cV F hP hD hS (k_X7_laySays l ad_t t_wills t_heirs t_kindOf t_worthOf t_thingOf t_changesOf t_changes t_heard t_heardHeir t_heardOne t_heardTwo t_heardMore t_pageLength t_page t_says t_dealt t_farOf t_endMany t_endMost t_endLeast t_endFew t_seedNow t_saved t_isKept t_keptWill t_keptChanges t_keptHeard t_keptWorth t_keptThing t_keptChangesOf t_keptHeir t_keptOne t_keptTwo t_keptMore t_h  e2) gX7_saysNow_X7_laySays rfl ⟨rfl, rfl⟩ nd_X7_laySays ⟨Nat.le_of_ble_eq_true rfl, Nat.le_of_ble_eq_true rfl⟩ 0 7 rfl rfl rfl hl.1 rfl (Nat.le_of_ble_eq_true rfl) dX7_saysNow_1 (pm0 (w_X7 cI cB ad_t t_wills t_heirs t_kindOf t_worthOf t_thingOf t_changesOf t_changes t_heard t_heardHeir t_heardOne t_heardTwo t_heardMore t_pageLength t_page t_says t_dealt t_farOf t_endMany t_endMost t_endLeast t_endFew t_seedNow t_saved t_isKept t_keptWill t_keptChanges t_keptHeard t_keptWorth t_keptThing t_keptChangesOf t_keptHeir t_keptOne t_keptTwo t_keptMore t_h)) (pm0 (w_X7 cI cB ad_t t_wills t_heirs t_kindOf t_worthOf t_thingOf t_changesOf t_changes t_heard t_heardHeir t_heardOne t_heardTwo t_heardMore t_pageLength t_page g1 t_dealt t_farOf t_endMany t_endMost t_endLeast t_endFew t_seedNow t_saved t_isKept t_keptWill t_keptChanges t_keptHeard t_keptWorth t_keptThing t_keptChangesOf t_keptHeir t_keptOne t_keptTwo t_keptMore t_h)) (fun H locs hP hD hS => ?_)
  refine lv_aload_n hx hb dX7_saysNow_4 rfl (lv_at hl 0 rfl) ?_
  refine gf F hP in_X7_saysNow_X7 0 rfl rfl 14 (by decide) 1 rfl rfl dX7_saysNow_5 ?_
  refine lv_iconst (v := 4) hx hb dX7_saysNow_8 (by decide) ?_
  refine lv_iload_n hx hb dX7_saysNow_9 rfl (lv_at hl 1 rfl) ?_
  refine lv_imul hx hb dX7_saysNow_10 ?_
  refine lv_iload_n hx hb dX7_saysNow_11 rfl (lv_at hl 2 rfl) ?_
  refine lv_iadd hx hb dX7_saysNow_12 ?_
  obtain ⟨v3, ev3, hf⟩ := bnd hf
  refine ald F hP 10 rfl ev3 dX7_saysNow_13 ?_
  replace hf : (some (v3, g1) : Option (Int32 × (Nat → Int32))) = some (rr, g_t_says) := hf
  cases hf
  exact ret_i F hP hS dX7_saysNow_14

/-! X7_heirNow -/
def rm_X7_heirNow : Room := { frames := 3, cells := 0, slots := 0, locals := 67 }
theorem in_X7_heirNow_X7 : ∀ w ∈ u_ws RX7 TX7 35, w ∈ wsX7_heirNow := fun _ h => List.mem_cons_of_mem _ (List.mem_append_right _ (h))
theorem nd_X7_heirNow : yX7_heirNow.cls = RX7 ∧ yX7_heirNow.cls ≠ "java/lang/invoke/MethodHandle" ∧ yX7_heirNow.cls ≠ "java/lang/invoke/VarHandle" ∧ (parseMethodDescriptor yX7_heirNow.desc).map (fun d => d.parameters.length) = some 2 := by decide +kernel
def f_X7_heirNow (t_heirs : Int32) (t_kindOf : Nat → Int32) (t_worthOf : Nat → Int32) (t_thingOf : Nat → Int32) (t_changesOf : Nat → Int32) (t_says : Nat → Int32) (x1 : Int32) (x2 : Int32) : Option (Int32 × (Nat → Int32)) := (if x2 < 20 then (if x2 < 10 then (if x2 = 0 then (rd t_kindOf 4 x1).bind (fun v11 => some (v11, t_says)) else (if x2 = 1 then (rd t_thingOf 4 x1).bind (fun v10 => some (v10, t_says)) else (if x2 = 2 then (f_X7_isContent t_worthOf t_thingOf x1).bind (fun v7 => (if v7 = 0 then some (0, t_says) else some (1, t_says))) else (rd t_changesOf 4 x1).bind (fun v6 => some (v6, t_says))))) else (rd t_worthOf 16 (((4 * x1) + x2) - 10)).bind (fun v12 => some (v12, t_says))) else (f_X7_saysNow t_heirs t_kindOf t_worthOf t_says x1 (x2 - 20)).bind (fun (v13, g14) => some (v13, g14)))
set_option maxHeartbeats 4000000 in
set_option maxRecDepth 100000 in
theorem k_X7_heirNow (l : Launch) {D : va_G} {cI cB : ClassId} {kK kV : Nat → Nat} (ad_t : Nat → Nat) (t_wills : Int32) (t_heirs : Int32) (t_kindOf : Nat → Int32) (t_worthOf : Nat → Int32) (t_thingOf : Nat → Int32) (t_changesOf : Nat → Int32) (t_changes : Int32) (t_heard : Int32) (t_heardHeir : Nat → Int32) (t_heardOne : Nat → Int32) (t_heardTwo : Nat → Int32) (t_heardMore : Nat → Int32) (t_pageLength : Int32) (t_page : Nat → Int32) (t_says : Nat → Int32) (t_dealt : Nat → Int32) (t_farOf : Nat → Int32) (t_endMany : Int32) (t_endMost : Int32) (t_endLeast : Int32) (t_endFew : Int32) (t_seedNow : Int64) (t_saved : Nat → Int32) (t_isKept : Int32) (t_keptWill : Int32) (t_keptChanges : Int32) (t_keptHeard : Int32) (t_keptWorth : Nat → Int32) (t_keptThing : Nat → Int32) (t_keptChangesOf : Nat → Int32) (t_keptHeir : Nat → Int32) (t_keptOne : Nat → Int32) (t_keptTwo : Nat → Int32) (t_keptMore : Nat → Int32) (t_h : Int64) (x1 : Int32) (x2 : Int32) {rr : Int32} {g_t_says : Nat → Int32} (hf : f_X7_heirNow t_heirs t_kindOf t_worthOf t_thingOf t_changesOf t_says x1 x2 = some (rr, g_t_says)) : Ct l yX7_heirNow wsX7_heirNow rm_X7_heirNow D cI cB kK kV [.ref (ad_t 0), .int x1, .int x2] (w_X7 cI cB ad_t t_wills t_heirs t_kindOf t_worthOf t_thingOf t_changesOf t_changes t_heard t_heardHeir t_heardOne t_heardTwo t_heardMore t_pageLength t_page t_says t_dealt t_farOf t_endMany t_endMost t_endLeast t_endFew t_seedNow t_saved t_isKept t_keptWill t_keptChanges t_keptHeard t_keptWorth t_keptThing t_keptChangesOf t_keptHeir t_keptOne t_keptTwo t_keptMore t_h) (w_X7 cI cB ad_t t_wills t_heirs t_kindOf t_worthOf t_thingOf t_changesOf t_changes t_heard t_heardHeir t_heardOne t_heardTwo t_heardMore t_pageLength t_page g_t_says t_dealt t_farOf t_endMany t_endMost t_endLeast t_endFew t_seedNow t_saved t_isKept t_keptWill t_keptChanges t_keptHeard t_keptWorth t_keptThing t_keptChangesOf t_keptHeir t_keptOne t_keptTwo t_keptMore t_h) (some (.int rr)) := by
  refine Ct.of (cc := cX7_heirNow) (maxL := 3) (ret := (some .int)) (by decide) rfl (Nat.le_of_ble_eq_true rfl) rfl ?_
  intro p e s m below meth c A ls F hP hD hS hl
  have hl : lv_has ls 3 [(0, .ref (ad_t 0)), (1, .int x1), (2, .int x2)] := hl
  obtain ⟨hx, hb, hml, hown, hts, hrt, hlocks, hK, hA, hZ⟩ := id F
  obtain ⟨H, hH⟩ : ∃ H, H = s.heap := ⟨_, rfl⟩
  obtain ⟨locs, hLo⟩ : ∃ q : List Loc, q = [] := ⟨_, rfl⟩
  refine (?_ : W p l e rm_X7_heirNow s m _ below meth c s.heap [] 0 0 _ _)
  rw [← hH, ← hLo]
  rw [← hH] at hP
  have hS : va_S A s.heap H locs := by rw [hH, hLo]; exact hS
  refine lv_iload_n hx hb dX7_heirNow_0 rfl (lv_at hl 2 rfl) ?_
  refine lv_bipush (v := 20) hx hb dX7_heirNow_1 (by decide) ?_
  refine lv_icmp_lt (tgt := 16) hx hb dX7_heirNow_3 (by decide) (fun c1 => ?_) (fun c1 => ?_)
  · replace hf := (if_pos c1).symm.trans hf
    refine lv_iload_n hx hb dX7_heirNow_16 rfl (lv_at hl 2 rfl) ?_
    refine lv_bipush (v := 10) hx hb dX7_heirNow_17 (by decide) ?_
    refine lv_icmp_lt (tgt := 36) hx hb dX7_heirNow_19 (by decide) (fun c2 => ?_) (fun c2 => ?_)
    · replace hf := (if_pos c2).symm.trans hf
      refine lv_iload_n hx hb dX7_heirNow_36 rfl (lv_at hl 2 rfl) ?_
      refine lv_if_ne (tgt := 49) hx hb dX7_heirNow_37 (by decide) (fun c3 => ?_) (fun c3 => ?_)
      · replace hf := (if_neg c3).symm.trans hf
        refine lv_iload_n hx hb dX7_heirNow_49 rfl (lv_at hl 2 rfl) ?_
        refine lv_iconst (v := 1) hx hb dX7_heirNow_50 (by decide) ?_
        refine lv_icmp_ne (tgt := 63) hx hb dX7_heirNow_51 (by decide) (fun c4 => ?_) (fun c4 => ?_)
        · replace hf := (if_neg c4).symm.trans hf
          refine lv_iload_n hx hb dX7_heirNow_63 rfl (lv_at hl 2 rfl) ?_
          refine lv_iconst (v := 2) hx hb dX7_heirNow_64 (by decide) ?_
          refine lv_icmp_ne (tgt := 84) hx hb dX7_heirNow_65 (by decide) (fun c5 => ?_) (fun c5 => ?_)
          · replace hf := (if_neg c5).symm.trans hf
            refine lv_aload_n hx hb dX7_heirNow_84 rfl (lv_at hl 0 rfl) ?_
            refine gf F hP in_X7_heirNow_X7 0 rfl rfl 5 (by decide) 4 rfl rfl dX7_heirNow_85 ?_
            refine lv_iload_n hx hb dX7_heirNow_88 rfl (lv_at hl 1 rfl) ?_
            obtain ⟨v6, ev6, hf⟩ := bnd hf
            refine ald F hP 4 rfl ev6 dX7_heirNow_89 ?_
            replace hf : (some (v6, t_says) : Option (Int32 × (Nat → Int32))) = some (rr, g_t_says) := hf
            cases hf
            exact ret_i F hP hS dX7_heirNow_90
          · replace hf := (if_pos c5).symm.trans hf
            refine lv_aload_n hx hb dX7_heirNow_68 rfl (lv_at hl 0 rfl) ?_
            refine lv_iload_n hx hb dX7_heirNow_69 rfl (lv_at hl 1 rfl) ?_
            obtain ⟨v7, e8, hf⟩ := bnd hf
            refine cV F hP hD hS (k_X7_isContent l ad_t t_wills t_heirs t_kindOf t_worthOf t_thingOf t_changesOf t_changes t_heard t_heardHeir t_heardOne t_heardTwo t_heardMore t_pageLength t_page t_says t_dealt t_farOf t_endMany t_endMost t_endLeast t_endFew t_seedNow t_saved t_isKept t_keptWill t_keptChanges t_keptHeard t_keptWorth t_keptThing t_keptChangesOf t_keptHeir t_keptOne t_keptTwo t_keptMore t_h x1 e8) gX7_heirNow_X7_isContent rfl ⟨rfl, rfl⟩ nd_X7_isContent ⟨Nat.le_of_ble_eq_true rfl, Nat.le_of_ble_eq_true rfl⟩ 0 7 rfl rfl rfl hl.1 rfl (Nat.le_of_ble_eq_true rfl) dX7_heirNow_70 (pm0 (w_X7 cI cB ad_t t_wills t_heirs t_kindOf t_worthOf t_thingOf t_changesOf t_changes t_heard t_heardHeir t_heardOne t_heardTwo t_heardMore t_pageLength t_page t_says t_dealt t_farOf t_endMany t_endMost t_endLeast t_endFew t_seedNow t_saved t_isKept t_keptWill t_keptChanges t_keptHeard t_keptWorth t_keptThing t_keptChangesOf t_keptHeir t_keptOne t_keptTwo t_keptMore t_h)) (pm0 (w_X7 cI cB ad_t t_wills t_heirs t_kindOf t_worthOf t_thingOf t_changesOf t_changes t_heard t_heardHeir t_heardOne t_heardTwo t_heardMore t_pageLength t_page t_says t_dealt t_farOf t_endMany t_endMost t_endLeast t_endFew t_seedNow t_saved t_isKept t_keptWill t_keptChanges t_keptHeard t_keptWorth t_keptThing t_keptChangesOf t_keptHeir t_keptOne t_keptTwo t_keptMore t_h)) (fun H locs hP hD hS => ?_)
            refine lv_if_eq (tgt := 80) hx hb dX7_heirNow_73 (by decide) (fun c9 => ?_) (fun c9 => ?_)
            · replace hf := (if_pos c9).symm.trans hf
              refine lv_iconst (v := 0) hx hb dX7_heirNow_80 (by decide) ?_
              refine lv_goto (tgt := 90) hx hb dX7_heirNow_81 (by decide) ?_
              replace hf : (some (0, t_says) : Option (Int32 × (Nat → Int32))) = some (rr, g_t_says) := hf
              cases hf
              exact ret_i F hP hS dX7_heirNow_90
            · replace hf := (if_neg c9).symm.trans hf
              refine lv_iconst (v := 1) hx hb dX7_heirNow_76 (by decide) ?_
              refine lv_goto (tgt := 90) hx hb dX7_heirNow_77 (by decide) ?_
              replace hf : (some (1, t_says) : Option (Int32 × (Nat → Int32))) = some (rr, g_t_says) := hf
              cases hf
              exact ret_i F hP hS dX7_heirNow_90
        · replace hf := (if_pos c4).symm.trans hf
          refine lv_aload_n hx hb dX7_heirNow_54 rfl (lv_at hl 0 rfl) ?_
          refine gf F hP in_X7_heirNow_X7 0 rfl rfl 4 (by decide) 3 rfl rfl dX7_heirNow_55 ?_
          refine lv_iload_n hx hb dX7_heirNow_58 rfl (lv_at hl 1 rfl) ?_
          obtain ⟨v10, ev10, hf⟩ := bnd hf
          refine ald F hP 3 rfl ev10 dX7_heirNow_59 ?_
          refine lv_goto (tgt := 90) hx hb dX7_heirNow_60 (by decide) ?_
          replace hf : (some (v10, t_says) : Option (Int32 × (Nat → Int32))) = some (rr, g_t_says) := hf
          cases hf
          exact ret_i F hP hS dX7_heirNow_90
      · replace hf := (if_pos c3).symm.trans hf
        refine lv_aload_n hx hb dX7_heirNow_40 rfl (lv_at hl 0 rfl) ?_
        refine gf F hP in_X7_heirNow_X7 0 rfl rfl 2 (by decide) 2 rfl rfl dX7_heirNow_41 ?_
        refine lv_iload_n hx hb dX7_heirNow_44 rfl (lv_at hl 1 rfl) ?_
        obtain ⟨v11, ev11, hf⟩ := bnd hf
        refine ald F hP 1 rfl ev11 dX7_heirNow_45 ?_
        refine lv_goto (tgt := 90) hx hb dX7_heirNow_46 (by decide) ?_
        replace hf : (some (v11, t_says) : Option (Int32 × (Nat → Int32))) = some (rr, g_t_says) := hf
        cases hf
        exact ret_i F hP hS dX7_heirNow_90
    · replace hf := (if_neg c2).symm.trans hf
      refine lv_aload_n hx hb dX7_heirNow_22 rfl (lv_at hl 0 rfl) ?_
      refine gf F hP in_X7_heirNow_X7 0 rfl rfl 3 (by decide) 1 rfl rfl dX7_heirNow_23 ?_
      refine lv_iconst (v := 4) hx hb dX7_heirNow_26 (by decide) ?_
      refine lv_iload_n hx hb dX7_heirNow_27 rfl (lv_at hl 1 rfl) ?_
      refine lv_imul hx hb dX7_heirNow_28 ?_
      refine lv_iload_n hx hb dX7_heirNow_29 rfl (lv_at hl 2 rfl) ?_
      refine lv_iadd hx hb dX7_heirNow_30 ?_
      refine lv_bipush (v := 10) hx hb dX7_heirNow_31 (by decide) ?_
      refine lv_isub hx hb dX7_heirNow_33 ?_
      obtain ⟨v12, ev12, hf⟩ := bnd hf
      refine ald F hP 2 rfl ev12 dX7_heirNow_34 ?_
      replace hf : (some (v12, t_says) : Option (Int32 × (Nat → Int32))) = some (rr, g_t_says) := hf
      cases hf
      exact ret_i F hP hS dX7_heirNow_35
  · replace hf := (if_neg c1).symm.trans hf
    refine lv_aload_n hx hb dX7_heirNow_6 rfl (lv_at hl 0 rfl) ?_
    refine lv_iload_n hx hb dX7_heirNow_7 rfl (lv_at hl 1 rfl) ?_
    refine lv_iload_n hx hb dX7_heirNow_8 rfl (lv_at hl 2 rfl) ?_
    refine lv_bipush (v := 20) hx hb dX7_heirNow_9 (by decide) ?_
    refine lv_isub hx hb dX7_heirNow_11 ?_
    obtain ⟨⟨v13, g14⟩, e15, hf⟩ := bnd hf
    refine cV F hP hD hS (k_X7_saysNow l ad_t t_wills t_heirs t_kindOf t_worthOf t_thingOf t_changesOf t_changes t_heard t_heardHeir t_heardOne t_heardTwo t_heardMore t_pageLength t_page t_says t_dealt t_farOf t_endMany t_endMost t_endLeast t_endFew t_seedNow t_saved t_isKept t_keptWill t_keptChanges t_keptHeard t_keptWorth t_keptThing t_keptChangesOf t_keptHeir t_keptOne t_keptTwo t_keptMore t_h x1 (x2 - 20) e15) gX7_heirNow_X7_saysNow rfl ⟨rfl, rfl⟩ nd_X7_saysNow ⟨Nat.le_of_ble_eq_true rfl, Nat.le_of_ble_eq_true rfl⟩ 0 7 rfl rfl rfl hl.1 rfl (Nat.le_of_ble_eq_true rfl) dX7_heirNow_12 (pm0 (w_X7 cI cB ad_t t_wills t_heirs t_kindOf t_worthOf t_thingOf t_changesOf t_changes t_heard t_heardHeir t_heardOne t_heardTwo t_heardMore t_pageLength t_page t_says t_dealt t_farOf t_endMany t_endMost t_endLeast t_endFew t_seedNow t_saved t_isKept t_keptWill t_keptChanges t_keptHeard t_keptWorth t_keptThing t_keptChangesOf t_keptHeir t_keptOne t_keptTwo t_keptMore t_h)) (pm0 (w_X7 cI cB ad_t t_wills t_heirs t_kindOf t_worthOf t_thingOf t_changesOf t_changes t_heard t_heardHeir t_heardOne t_heardTwo t_heardMore t_pageLength t_page g14 t_dealt t_farOf t_endMany t_endMost t_endLeast t_endFew t_seedNow t_saved t_isKept t_keptWill t_keptChanges t_keptHeard t_keptWorth t_keptThing t_keptChangesOf t_keptHeir t_keptOne t_keptTwo t_keptMore t_h)) (fun H locs hP hD hS => ?_)
    replace hf : (some (v13, g14) : Option (Int32 × (Nat → Int32))) = some (rr, g_t_says) := hf
    cases hf
    exact ret_i F hP hS dX7_heirNow_15

/-! X7_about -/
def rm_X7_about : Room := { frames := 4, cells := 0, slots := 0, locals := 89 }
theorem nd_X7_about : yX7_about.cls = RX7 ∧ yX7_about.cls ≠ "java/lang/invoke/MethodHandle" ∧ yX7_about.cls ≠ "java/lang/invoke/VarHandle" ∧ (parseMethodDescriptor yX7_about.desc).map (fun d => d.parameters.length) = some 2 := by decide +kernel
def f_X7_about_36 (t_heirs : Int32) (t_kindOf : Nat → Int32) (t_worthOf : Nat → Int32) (t_thingOf : Nat → Int32) (t_changesOf : Nat → Int32)  (x1 : Int32) (x2 : Int32) (k0 : Int32) (t_says : Nat → Int32) : Option (Int32 × (Nat → Int32)) := (f_X7_isHeir t_heirs x1).bind (fun v1 => (if v1 = 0 then some ((-101), t_says) else (if k0 = 0 then some ((-102), t_says) else (f_X7_heirNow t_heirs t_kindOf t_worthOf t_thingOf t_changesOf t_says x1 x2).bind (fun (v5, g6) => some (v5, g6)))))
def f_X7_about_31 (t_heirs : Int32) (t_kindOf : Nat → Int32) (t_worthOf : Nat → Int32) (t_thingOf : Nat → Int32) (t_changesOf : Nat → Int32)  (x1 : Int32) (x2 : Int32) (t_says : Nat → Int32) : Option (Int32 × (Nat → Int32)) := f_X7_about_36 t_heirs t_kindOf t_worthOf t_thingOf t_changesOf x1 x2 1 t_says
def f_X7_about (t_heirs : Int32) (t_kindOf : Nat → Int32) (t_worthOf : Nat → Int32) (t_thingOf : Nat → Int32) (t_changesOf : Nat → Int32) (t_says : Nat → Int32) (x1 : Int32) (x2 : Int32) : Option (Int32 × (Nat → Int32)) := (f_X7_within x2 0 3).bind (fun v1 => (if v1 = 0 then (f_X7_within x2 10 13).bind (fun v4 => (if v4 = 0 then (f_X7_within x2 20 23).bind (fun v7 => (if v7 = 0 then f_X7_about_36 t_heirs t_kindOf t_worthOf t_thingOf t_changesOf x1 x2 0 t_says else f_X7_about_31 t_heirs t_kindOf t_worthOf t_thingOf t_changesOf x1 x2 t_says)) else f_X7_about_31 t_heirs t_kindOf t_worthOf t_thingOf t_changesOf x1 x2 t_says)) else f_X7_about_31 t_heirs t_kindOf t_worthOf t_thingOf t_changesOf x1 x2 t_says))
set_option maxHeartbeats 4000000 in
set_option maxRecDepth 100000 in
theorem b_X7_about_36 {p : Program} {l : Launch} {e : Env} {s : State} {m : MethodId} {args : Array Value} {below : List Frame} {meth : Method} {c : Code} {D : va_G} {cI cB : ClassId} {kK kV : Nat → Nat} {A : Nat → Prop} (F : Fx p m c s meth args cX7_about 4 RX7 wsX7_about (some .int) D cI cB kK kV A) {ad_t : Nat → Nat} {t_wills : Int32} {t_heirs : Int32} {t_kindOf : Nat → Int32} {t_worthOf : Nat → Int32} {t_thingOf : Nat → Int32} {t_changesOf : Nat → Int32} {t_changes : Int32} {t_heard : Int32} {t_heardHeir : Nat → Int32} {t_heardOne : Nat → Int32} {t_heardTwo : Nat → Int32} {t_heardMore : Nat → Int32} {t_pageLength : Int32} {t_page : Nat → Int32} {t_dealt : Nat → Int32} {t_farOf : Nat → Int32} {t_endMany : Int32} {t_endMost : Int32} {t_endLeast : Int32} {t_endFew : Int32} {t_seedNow : Int64} {t_saved : Nat → Int32} {t_isKept : Int32} {t_keptWill : Int32} {t_keptChanges : Int32} {t_keptHeard : Int32} {t_keptWorth : Nat → Int32} {t_keptThing : Nat → Int32} {t_keptChangesOf : Nat → Int32} {t_keptHeir : Nat → Int32} {t_keptOne : Nat → Int32} {t_keptTwo : Nat → Int32} {t_keptMore : Nat → Int32} {t_h : Int64} {rr : Int32} {g_t_says : Nat → Int32} : ∀ (x1 : Int32) (x2 : Int32) (k0 : Int32) (t_says : Nat → Int32) (H : Heap) (locs : List Loc) (ls : Array Slot), va_P D vwCl (w_X7 cI cB ad_t t_wills t_heirs t_kindOf t_worthOf t_thingOf t_changesOf t_changes t_heard t_heardHeir t_heardOne t_heardTwo t_heardMore t_pageLength t_page t_says t_dealt t_farOf t_endMany t_endMost t_endLeast t_endFew t_seedNow t_saved t_isKept t_keptWill t_keptChanges t_keptHeard t_keptWorth t_keptThing t_keptChangesOf t_keptHeir t_keptOne t_keptTwo t_keptMore t_h) H → va_D A (w_X7 cI cB ad_t t_wills t_heirs t_kindOf t_worthOf t_thingOf t_changesOf t_changes t_heard t_heardHeir t_heardOne t_heardTwo t_heardMore t_pageLength t_page t_says t_dealt t_farOf t_endMany t_endMost t_endLeast t_endFew t_seedNow t_saved t_isKept t_keptWill t_keptChanges t_keptHeard t_keptWorth t_keptThing t_keptChangesOf t_keptHeir t_keptOne t_keptTwo t_keptMore t_h) → va_S A s.heap H locs → lv_has ls 4 [(0, .ref (ad_t 0)), (1, .int x1), (2, .int x2)] → f_X7_about_36 t_heirs t_kindOf t_worthOf t_thingOf t_changesOf  x1 x2 k0 t_says = some (rr, g_t_says) → W p l e rm_X7_about s m args below meth c H locs 0 0 (Zq D below args s A (w_X7 cI cB ad_t t_wills t_heirs t_kindOf t_worthOf t_thingOf t_changesOf t_changes t_heard t_heardHeir t_heardOne t_heardTwo t_heardMore t_pageLength t_page g_t_says t_dealt t_farOf t_endMany t_endMost t_endLeast t_endFew t_seedNow t_saved t_isKept t_keptWill t_keptChanges t_keptHeard t_keptWorth t_keptThing t_keptChangesOf t_keptHeir t_keptOne t_keptTwo t_keptMore t_h) (some (.int rr))) (F0 m 36 ls [.int k0]) := by
  obtain ⟨hx, hb, hml, hown, hts, hrt, hlocks, hK, hA, hZ⟩ := id F
  intro x1 x2 k0 t_says H locs ls hP hD hS hl hf
  refine lv_istore_n (lv' := [(3, .int k0), (0, .ref (ad_t 0)), (1, .int x1), (2, .int x2)]) hx hb dX7_about_36 rfl hl (by decide) rfl (fun ls hl => ?_)
  refine lv_aload_n hx hb dX7_about_37 rfl (lv_at hl 1 rfl) ?_
  refine lv_iload_n hx hb dX7_about_38 rfl (lv_at hl 2 rfl) ?_
  obtain ⟨v1, e2, hf⟩ := bnd hf
  refine cV F hP hD hS (k_X7_isHeir l ad_t t_wills t_heirs t_kindOf t_worthOf t_thingOf t_changesOf t_changes t_heard t_heardHeir t_heardOne t_heardTwo t_heardMore t_pageLength t_page t_says t_dealt t_farOf t_endMany t_endMost t_endLeast t_endFew t_seedNow t_saved t_isKept t_keptWill t_keptChanges t_keptHeard t_keptWorth t_keptThing t_keptChangesOf t_keptHeir t_keptOne t_keptTwo t_keptMore t_h x1 e2) gX7_about_X7_isHeir rfl ⟨rfl, rfl⟩ nd_X7_isHeir ⟨Nat.le_of_ble_eq_true rfl, Nat.le_of_ble_eq_true rfl⟩ 0 7 rfl rfl rfl hl.1 rfl (Nat.le_of_ble_eq_true rfl) dX7_about_39 (pm0 (w_X7 cI cB ad_t t_wills t_heirs t_kindOf t_worthOf t_thingOf t_changesOf t_changes t_heard t_heardHeir t_heardOne t_heardTwo t_heardMore t_pageLength t_page t_says t_dealt t_farOf t_endMany t_endMost t_endLeast t_endFew t_seedNow t_saved t_isKept t_keptWill t_keptChanges t_keptHeard t_keptWorth t_keptThing t_keptChangesOf t_keptHeir t_keptOne t_keptTwo t_keptMore t_h)) (pm0 (w_X7 cI cB ad_t t_wills t_heirs t_kindOf t_worthOf t_thingOf t_changesOf t_changes t_heard t_heardHeir t_heardOne t_heardTwo t_heardMore t_pageLength t_page t_says t_dealt t_farOf t_endMany t_endMost t_endLeast t_endFew t_seedNow t_saved t_isKept t_keptWill t_keptChanges t_keptHeard t_keptWorth t_keptThing t_keptChangesOf t_keptHeir t_keptOne t_keptTwo t_keptMore t_h)) (fun H locs hP hD hS => ?_)
  refine lv_if_ne (tgt := 50) hx hb dX7_about_42 (by decide) (fun c3 => ?_) (fun c3 => ?_)
  · replace hf := (if_neg c3).symm.trans hf
    refine lv_iload_n hx hb dX7_about_50 rfl (lv_at hl 0 rfl) ?_
    refine lv_if_eq (tgt := 63) hx hb dX7_about_51 (by decide) (fun c4 => ?_) (fun c4 => ?_)
    · replace hf := (if_pos c4).symm.trans hf
      refine lv_bipush (v := (-102)) hx hb dX7_about_63 (by decide) ?_
      replace hf : (some ((-102), t_says) : Option (Int32 × (Nat → Int32))) = some (rr, g_t_says) := hf
      cases hf
      exact ret_i F hP hS dX7_about_65
    · replace hf := (if_neg c4).symm.trans hf
      refine lv_aload_n hx hb dX7_about_54 rfl (lv_at hl 1 rfl) ?_
      refine lv_iload_n hx hb dX7_about_55 rfl (lv_at hl 2 rfl) ?_
      refine lv_iload_n hx hb dX7_about_56 rfl (lv_at hl 3 rfl) ?_
      obtain ⟨⟨v5, g6⟩, e7, hf⟩ := bnd hf
      refine cV F hP hD hS (k_X7_heirNow l ad_t t_wills t_heirs t_kindOf t_worthOf t_thingOf t_changesOf t_changes t_heard t_heardHeir t_heardOne t_heardTwo t_heardMore t_pageLength t_page t_says t_dealt t_farOf t_endMany t_endMost t_endLeast t_endFew t_seedNow t_saved t_isKept t_keptWill t_keptChanges t_keptHeard t_keptWorth t_keptThing t_keptChangesOf t_keptHeir t_keptOne t_keptTwo t_keptMore t_h x1 x2 e7) gX7_about_X7_heirNow rfl ⟨rfl, rfl⟩ nd_X7_heirNow ⟨Nat.le_of_ble_eq_true rfl, Nat.le_of_ble_eq_true rfl⟩ 0 7 rfl rfl rfl hl.1 rfl (Nat.le_of_ble_eq_true rfl) dX7_about_57 (pm0 (w_X7 cI cB ad_t t_wills t_heirs t_kindOf t_worthOf t_thingOf t_changesOf t_changes t_heard t_heardHeir t_heardOne t_heardTwo t_heardMore t_pageLength t_page t_says t_dealt t_farOf t_endMany t_endMost t_endLeast t_endFew t_seedNow t_saved t_isKept t_keptWill t_keptChanges t_keptHeard t_keptWorth t_keptThing t_keptChangesOf t_keptHeir t_keptOne t_keptTwo t_keptMore t_h)) (pm0 (w_X7 cI cB ad_t t_wills t_heirs t_kindOf t_worthOf t_thingOf t_changesOf t_changes t_heard t_heardHeir t_heardOne t_heardTwo t_heardMore t_pageLength t_page g6 t_dealt t_farOf t_endMany t_endMost t_endLeast t_endFew t_seedNow t_saved t_isKept t_keptWill t_keptChanges t_keptHeard t_keptWorth t_keptThing t_keptChangesOf t_keptHeir t_keptOne t_keptTwo t_keptMore t_h)) (fun H locs hP hD hS => ?_)
      refine lv_goto (tgt := 65) hx hb dX7_about_60 (by decide) ?_
      replace hf : (some (v5, g6) : Option (Int32 × (Nat → Int32))) = some (rr, g_t_says) := hf
      cases hf
      exact ret_i F hP hS dX7_about_65
  · replace hf := (if_pos c3).symm.trans hf
    refine lv_bipush (v := (-101)) hx hb dX7_about_45 (by decide) ?_
    refine lv_goto (tgt := 65) hx hb dX7_about_47 (by decide) ?_
    replace hf : (some ((-101), t_says) : Option (Int32 × (Nat → Int32))) = some (rr, g_t_says) := hf
    cases hf
    exact ret_i F hP hS dX7_about_65

set_option maxHeartbeats 4000000 in
set_option maxRecDepth 100000 in
theorem b_X7_about_31 {p : Program} {l : Launch} {e : Env} {s : State} {m : MethodId} {args : Array Value} {below : List Frame} {meth : Method} {c : Code} {D : va_G} {cI cB : ClassId} {kK kV : Nat → Nat} {A : Nat → Prop} (F : Fx p m c s meth args cX7_about 4 RX7 wsX7_about (some .int) D cI cB kK kV A) {ad_t : Nat → Nat} {t_wills : Int32} {t_heirs : Int32} {t_kindOf : Nat → Int32} {t_worthOf : Nat → Int32} {t_thingOf : Nat → Int32} {t_changesOf : Nat → Int32} {t_changes : Int32} {t_heard : Int32} {t_heardHeir : Nat → Int32} {t_heardOne : Nat → Int32} {t_heardTwo : Nat → Int32} {t_heardMore : Nat → Int32} {t_pageLength : Int32} {t_page : Nat → Int32} {t_dealt : Nat → Int32} {t_farOf : Nat → Int32} {t_endMany : Int32} {t_endMost : Int32} {t_endLeast : Int32} {t_endFew : Int32} {t_seedNow : Int64} {t_saved : Nat → Int32} {t_isKept : Int32} {t_keptWill : Int32} {t_keptChanges : Int32} {t_keptHeard : Int32} {t_keptWorth : Nat → Int32} {t_keptThing : Nat → Int32} {t_keptChangesOf : Nat → Int32} {t_keptHeir : Nat → Int32} {t_keptOne : Nat → Int32} {t_keptTwo : Nat → Int32} {t_keptMore : Nat → Int32} {t_h : Int64} {rr : Int32} {g_t_says : Nat → Int32} : ∀ (x1 : Int32) (x2 : Int32) (t_says : Nat → Int32) (H : Heap) (locs : List Loc) (ls : Array Slot), va_P D vwCl (w_X7 cI cB ad_t t_wills t_heirs t_kindOf t_worthOf t_thingOf t_changesOf t_changes t_heard t_heardHeir t_heardOne t_heardTwo t_heardMore t_pageLength t_page t_says t_dealt t_farOf t_endMany t_endMost t_endLeast t_endFew t_seedNow t_saved t_isKept t_keptWill t_keptChanges t_keptHeard t_keptWorth t_keptThing t_keptChangesOf t_keptHeir t_keptOne t_keptTwo t_keptMore t_h) H → va_D A (w_X7 cI cB ad_t t_wills t_heirs t_kindOf t_worthOf t_thingOf t_changesOf t_changes t_heard t_heardHeir t_heardOne t_heardTwo t_heardMore t_pageLength t_page t_says t_dealt t_farOf t_endMany t_endMost t_endLeast t_endFew t_seedNow t_saved t_isKept t_keptWill t_keptChanges t_keptHeard t_keptWorth t_keptThing t_keptChangesOf t_keptHeir t_keptOne t_keptTwo t_keptMore t_h) → va_S A s.heap H locs → lv_has ls 4 [(0, .ref (ad_t 0)), (1, .int x1), (2, .int x2)] → f_X7_about_31 t_heirs t_kindOf t_worthOf t_thingOf t_changesOf  x1 x2 t_says = some (rr, g_t_says) → W p l e rm_X7_about s m args below meth c H locs 0 0 (Zq D below args s A (w_X7 cI cB ad_t t_wills t_heirs t_kindOf t_worthOf t_thingOf t_changesOf t_changes t_heard t_heardHeir t_heardOne t_heardTwo t_heardMore t_pageLength t_page g_t_says t_dealt t_farOf t_endMany t_endMost t_endLeast t_endFew t_seedNow t_saved t_isKept t_keptWill t_keptChanges t_keptHeard t_keptWorth t_keptThing t_keptChangesOf t_keptHeir t_keptOne t_keptTwo t_keptMore t_h) (some (.int rr))) (F0 m 31 ls []) := by
  obtain ⟨hx, hb, hml, hown, hts, hrt, hlocks, hK, hA, hZ⟩ := id F
  intro x1 x2 t_says H locs ls hP hD hS hl hf
  refine lv_iconst (v := 1) hx hb dX7_about_31 (by decide) ?_
  refine lv_goto (tgt := 36) hx hb dX7_about_32 (by decide) ?_
  exact b_X7_about_36 F  x1 x2 1 t_says H locs ls hP hD hS (lv_sub hl [0, 1, 2] rfl) hf

set_option maxHeartbeats 4000000 in
set_option maxRecDepth 100000 in
theorem k_X7_about (l : Launch) {D : va_G} {cI cB : ClassId} {kK kV : Nat → Nat} (ad_t : Nat → Nat) (t_wills : Int32) (t_heirs : Int32) (t_kindOf : Nat → Int32) (t_worthOf : Nat → Int32) (t_thingOf : Nat → Int32) (t_changesOf : Nat → Int32) (t_changes : Int32) (t_heard : Int32) (t_heardHeir : Nat → Int32) (t_heardOne : Nat → Int32) (t_heardTwo : Nat → Int32) (t_heardMore : Nat → Int32) (t_pageLength : Int32) (t_page : Nat → Int32) (t_says : Nat → Int32) (t_dealt : Nat → Int32) (t_farOf : Nat → Int32) (t_endMany : Int32) (t_endMost : Int32) (t_endLeast : Int32) (t_endFew : Int32) (t_seedNow : Int64) (t_saved : Nat → Int32) (t_isKept : Int32) (t_keptWill : Int32) (t_keptChanges : Int32) (t_keptHeard : Int32) (t_keptWorth : Nat → Int32) (t_keptThing : Nat → Int32) (t_keptChangesOf : Nat → Int32) (t_keptHeir : Nat → Int32) (t_keptOne : Nat → Int32) (t_keptTwo : Nat → Int32) (t_keptMore : Nat → Int32) (t_h : Int64) (x1 : Int32) (x2 : Int32) {rr : Int32} {g_t_says : Nat → Int32} (hf : f_X7_about t_heirs t_kindOf t_worthOf t_thingOf t_changesOf t_says x1 x2 = some (rr, g_t_says)) : Ct l yX7_about wsX7_about rm_X7_about D cI cB kK kV [.ref (ad_t 0), .int x1, .int x2] (w_X7 cI cB ad_t t_wills t_heirs t_kindOf t_worthOf t_thingOf t_changesOf t_changes t_heard t_heardHeir t_heardOne t_heardTwo t_heardMore t_pageLength t_page t_says t_dealt t_farOf t_endMany t_endMost t_endLeast t_endFew t_seedNow t_saved t_isKept t_keptWill t_keptChanges t_keptHeard t_keptWorth t_keptThing t_keptChangesOf t_keptHeir t_keptOne t_keptTwo t_keptMore t_h) (w_X7 cI cB ad_t t_wills t_heirs t_kindOf t_worthOf t_thingOf t_changesOf t_changes t_heard t_heardHeir t_heardOne t_heardTwo t_heardMore t_pageLength t_page g_t_says t_dealt t_farOf t_endMany t_endMost t_endLeast t_endFew t_seedNow t_saved t_isKept t_keptWill t_keptChanges t_keptHeard t_keptWorth t_keptThing t_keptChangesOf t_keptHeir t_keptOne t_keptTwo t_keptMore t_h) (some (.int rr)) := by
  refine Ct.of (cc := cX7_about) (maxL := 4) (ret := (some .int)) (by decide) rfl (Nat.le_of_ble_eq_true rfl) rfl ?_
  intro p e s m below meth c A ls F hP hD hS hl
  have hl : lv_has ls 4 [(0, .ref (ad_t 0)), (1, .int x1), (2, .int x2)] := hl
  obtain ⟨hx, hb, hml, hown, hts, hrt, hlocks, hK, hA, hZ⟩ := id F
  obtain ⟨H, hH⟩ : ∃ H, H = s.heap := ⟨_, rfl⟩
  obtain ⟨locs, hLo⟩ : ∃ q : List Loc, q = [] := ⟨_, rfl⟩
  refine (?_ : W p l e rm_X7_about s m _ below meth c s.heap [] 0 0 _ _)
  rw [← hH, ← hLo]
  rw [← hH] at hP
  have hS : va_S A s.heap H locs := by rw [hH, hLo]; exact hS
  refine lv_iload_n hx hb dX7_about_0 rfl (lv_at hl 2 rfl) ?_
  refine lv_iconst (v := 0) hx hb dX7_about_1 (by decide) ?_
  refine lv_iconst (v := 3) hx hb dX7_about_2 (by decide) ?_
  obtain ⟨v1, e2, hf⟩ := bnd hf
  refine cS F hP hD hS (k_X7_within l  x2 0 3 e2) gX7_about_X7_within rfl ⟨rfl, rfl⟩ nd_X7_within ⟨Nat.le_of_ble_eq_true rfl, Nat.le_of_ble_eq_true rfl⟩ rfl hl.1 rfl (Nat.le_of_ble_eq_true rfl) dX7_about_3 (pmE (w_X7 cI cB ad_t t_wills t_heirs t_kindOf t_worthOf t_thingOf t_changesOf t_changes t_heard t_heardHeir t_heardOne t_heardTwo t_heardMore t_pageLength t_page t_says t_dealt t_farOf t_endMany t_endMost t_endLeast t_endFew t_seedNow t_saved t_isKept t_keptWill t_keptChanges t_keptHeard t_keptWorth t_keptThing t_keptChangesOf t_keptHeir t_keptOne t_keptTwo t_keptMore t_h)) (pmE (w_X7 cI cB ad_t t_wills t_heirs t_kindOf t_worthOf t_thingOf t_changesOf t_changes t_heard t_heardHeir t_heardOne t_heardTwo t_heardMore t_pageLength t_page t_says t_dealt t_farOf t_endMany t_endMost t_endLeast t_endFew t_seedNow t_saved t_isKept t_keptWill t_keptChanges t_keptHeard t_keptWorth t_keptThing t_keptChangesOf t_keptHeir t_keptOne t_keptTwo t_keptMore t_h)) (fun H locs hP hD hS => ?_)
  refine lv_if_ne (tgt := 31) hx hb dX7_about_6 (by decide) (fun c3 => ?_) (fun c3 => ?_)
  · replace hf := (if_neg c3).symm.trans hf
    exact b_X7_about_31 F  x1 x2 t_says H locs ls hP hD hS (lv_sub hl [0, 1, 2] rfl) hf
  · replace hf := (if_pos c3).symm.trans hf
    refine lv_iload_n hx hb dX7_about_9 rfl (lv_at hl 2 rfl) ?_
    refine lv_bipush (v := 10) hx hb dX7_about_10 (by decide) ?_
    refine lv_bipush (v := 13) hx hb dX7_about_12 (by decide) ?_
    obtain ⟨v4, e5, hf⟩ := bnd hf
    refine cS F hP hD hS (k_X7_within l  x2 10 13 e5) gX7_about_X7_within rfl ⟨rfl, rfl⟩ nd_X7_within ⟨Nat.le_of_ble_eq_true rfl, Nat.le_of_ble_eq_true rfl⟩ rfl hl.1 rfl (Nat.le_of_ble_eq_true rfl) dX7_about_14 (pmE (w_X7 cI cB ad_t t_wills t_heirs t_kindOf t_worthOf t_thingOf t_changesOf t_changes t_heard t_heardHeir t_heardOne t_heardTwo t_heardMore t_pageLength t_page t_says t_dealt t_farOf t_endMany t_endMost t_endLeast t_endFew t_seedNow t_saved t_isKept t_keptWill t_keptChanges t_keptHeard t_keptWorth t_keptThing t_keptChangesOf t_keptHeir t_keptOne t_keptTwo t_keptMore t_h)) (pmE (w_X7 cI cB ad_t t_wills t_heirs t_kindOf t_worthOf t_thingOf t_changesOf t_changes t_heard t_heardHeir t_heardOne t_heardTwo t_heardMore t_pageLength t_page t_says t_dealt t_farOf t_endMany t_endMost t_endLeast t_endFew t_seedNow t_saved t_isKept t_keptWill t_keptChanges t_keptHeard t_keptWorth t_keptThing t_keptChangesOf t_keptHeir t_keptOne t_keptTwo t_keptMore t_h)) (fun H locs hP hD hS => ?_)
    refine lv_if_ne (tgt := 31) hx hb dX7_about_17 (by decide) (fun c6 => ?_) (fun c6 => ?_)
    · replace hf := (if_neg c6).symm.trans hf
      exact b_X7_about_31 F  x1 x2 t_says H locs ls hP hD hS (lv_sub hl [0, 1, 2] rfl) hf
    · replace hf := (if_pos c6).symm.trans hf
      refine lv_iload_n hx hb dX7_about_20 rfl (lv_at hl 2 rfl) ?_
      refine lv_bipush (v := 20) hx hb dX7_about_21 (by decide) ?_
      refine lv_bipush (v := 23) hx hb dX7_about_23 (by decide) ?_
      obtain ⟨v7, e8, hf⟩ := bnd hf
      refine cS F hP hD hS (k_X7_within l  x2 20 23 e8) gX7_about_X7_within rfl ⟨rfl, rfl⟩ nd_X7_within ⟨Nat.le_of_ble_eq_true rfl, Nat.le_of_ble_eq_true rfl⟩ rfl hl.1 rfl (Nat.le_of_ble_eq_true rfl) dX7_about_25 (pmE (w_X7 cI cB ad_t t_wills t_heirs t_kindOf t_worthOf t_thingOf t_changesOf t_changes t_heard t_heardHeir t_heardOne t_heardTwo t_heardMore t_pageLength t_page t_says t_dealt t_farOf t_endMany t_endMost t_endLeast t_endFew t_seedNow t_saved t_isKept t_keptWill t_keptChanges t_keptHeard t_keptWorth t_keptThing t_keptChangesOf t_keptHeir t_keptOne t_keptTwo t_keptMore t_h)) (pmE (w_X7 cI cB ad_t t_wills t_heirs t_kindOf t_worthOf t_thingOf t_changesOf t_changes t_heard t_heardHeir t_heardOne t_heardTwo t_heardMore t_pageLength t_page t_says t_dealt t_farOf t_endMany t_endMost t_endLeast t_endFew t_seedNow t_saved t_isKept t_keptWill t_keptChanges t_keptHeard t_keptWorth t_keptThing t_keptChangesOf t_keptHeir t_keptOne t_keptTwo t_keptMore t_h)) (fun H locs hP hD hS => ?_)
      refine lv_if_eq (tgt := 35) hx hb dX7_about_28 (by decide) (fun c9 => ?_) (fun c9 => ?_)
      · replace hf := (if_pos c9).symm.trans hf
        refine lv_iconst (v := 0) hx hb dX7_about_35 (by decide) ?_
        exact b_X7_about_36 F  x1 x2 0 t_says H locs ls hP hD hS (lv_sub hl [0, 1, 2] rfl) hf
      · replace hf := (if_neg c9).symm.trans hf
        exact b_X7_about_31 F  x1 x2 t_says H locs ls hP hD hS (lv_sub hl [0, 1, 2] rfl) hf

/-! X7_as -/
def rm_X7_as : Room := { frames := 2, cells := 0, slots := 0, locals := 43 }
theorem in_X7_as_X7 : ∀ w ∈ u_ws RX7 TX7 35, w ∈ wsX7_as := fun _ h => List.mem_cons_of_mem _ (List.mem_append_right _ (h))
theorem nd_X7_as : yX7_as.cls = RX7 ∧ yX7_as.cls ≠ "java/lang/invoke/MethodHandle" ∧ yX7_as.cls ≠ "java/lang/invoke/VarHandle" ∧ (parseMethodDescriptor yX7_as.desc).map (fun d => d.parameters.length) = some 2 := by decide +kernel
def f_X7_as_49 (t_heirs : Int32) (t_kindOf : Nat → Int32)  (x1 : Int32) : Option (Int32) := some x1
def f_X7_as (t_heirs : Int32) (t_kindOf : Nat → Int32) (x1 : Int32) (x2 : Int32) : Option (Int32) := (f_X7_isHeir t_heirs x1).bind (fun v1 => (if v1 = 0 then some (-101) else (f_X7_within x2 0 4).bind (fun v4 => (if v4 = 0 then some (-102) else (rd t_kindOf 4 x1).bind (fun v7 => (if x2 = 0 then f_X7_as_49 t_heirs t_kindOf x1 else (if v7 = x2 then f_X7_as_49 t_heirs t_kindOf x1 else (if x2 = 1 then (if v7 = 4 then f_X7_as_49 t_heirs t_kindOf x1 else some (-1)) else some (-1)))))))))
set_option maxHeartbeats 4000000 in
set_option maxRecDepth 100000 in
theorem b_X7_as_49 {p : Program} {l : Launch} {e : Env} {s : State} {m : MethodId} {args : Array Value} {below : List Frame} {meth : Method} {c : Code} {D : va_G} {cI cB : ClassId} {kK kV : Nat → Nat} {A : Nat → Prop} (F : Fx p m c s meth args cX7_as 4 RX7 wsX7_as (some .int) D cI cB kK kV A) {ad_t : Nat → Nat} {t_wills : Int32} {t_heirs : Int32} {t_kindOf : Nat → Int32} {t_worthOf : Nat → Int32} {t_thingOf : Nat → Int32} {t_changesOf : Nat → Int32} {t_changes : Int32} {t_heard : Int32} {t_heardHeir : Nat → Int32} {t_heardOne : Nat → Int32} {t_heardTwo : Nat → Int32} {t_heardMore : Nat → Int32} {t_pageLength : Int32} {t_page : Nat → Int32} {t_says : Nat → Int32} {t_dealt : Nat → Int32} {t_farOf : Nat → Int32} {t_endMany : Int32} {t_endMost : Int32} {t_endLeast : Int32} {t_endFew : Int32} {t_seedNow : Int64} {t_saved : Nat → Int32} {t_isKept : Int32} {t_keptWill : Int32} {t_keptChanges : Int32} {t_keptHeard : Int32} {t_keptWorth : Nat → Int32} {t_keptThing : Nat → Int32} {t_keptChangesOf : Nat → Int32} {t_keptHeir : Nat → Int32} {t_keptOne : Nat → Int32} {t_keptTwo : Nat → Int32} {t_keptMore : Nat → Int32} {t_h : Int64} {rr : Int32}  : ∀ (x1 : Int32) (H : Heap) (locs : List Loc) (ls : Array Slot), va_P D vwCl (w_X7 cI cB ad_t t_wills t_heirs t_kindOf t_worthOf t_thingOf t_changesOf t_changes t_heard t_heardHeir t_heardOne t_heardTwo t_heardMore t_pageLength t_page t_says t_dealt t_farOf t_endMany t_endMost t_endLeast t_endFew t_seedNow t_saved t_isKept t_keptWill t_keptChanges t_keptHeard t_keptWorth t_keptThing t_keptChangesOf t_keptHeir t_keptOne t_keptTwo t_keptMore t_h) H → va_D A (w_X7 cI cB ad_t t_wills t_heirs t_kindOf t_worthOf t_thingOf t_changesOf t_changes t_heard t_heardHeir t_heardOne t_heardTwo t_heardMore t_pageLength t_page t_says t_dealt t_farOf t_endMany t_endMost t_endLeast t_endFew t_seedNow t_saved t_isKept t_keptWill t_keptChanges t_keptHeard t_keptWorth t_keptThing t_keptChangesOf t_keptHeir t_keptOne t_keptTwo t_keptMore t_h) → va_S A s.heap H locs → lv_has ls 4 [(0, .ref (ad_t 0)), (1, .int x1)] → f_X7_as_49 t_heirs t_kindOf  x1 = some rr → W p l e rm_X7_as s m args below meth c H locs 0 0 (Zq D below args s A (w_X7 cI cB ad_t t_wills t_heirs t_kindOf t_worthOf t_thingOf t_changesOf t_changes t_heard t_heardHeir t_heardOne t_heardTwo t_heardMore t_pageLength t_page t_says t_dealt t_farOf t_endMany t_endMost t_endLeast t_endFew t_seedNow t_saved t_isKept t_keptWill t_keptChanges t_keptHeard t_keptWorth t_keptThing t_keptChangesOf t_keptHeir t_keptOne t_keptTwo t_keptMore t_h) (some (.int rr))) (F0 m 49 ls []) := by
  obtain ⟨hx, hb, hml, hown, hts, hrt, hlocks, hK, hA, hZ⟩ := id F
  intro x1 H locs ls hP hD hS hl hf
  refine lv_iload_n hx hb dX7_as_49 rfl (lv_at hl 1 rfl) ?_
  refine lv_goto (tgt := 54) hx hb dX7_as_50 (by decide) ?_
  replace hf : (some x1 : Option (Int32)) = some rr := hf
  cases hf
  exact ret_i F hP hS dX7_as_54

set_option maxHeartbeats 4000000 in
set_option maxRecDepth 100000 in
theorem k_X7_as (l : Launch) {D : va_G} {cI cB : ClassId} {kK kV : Nat → Nat} (ad_t : Nat → Nat) (t_wills : Int32) (t_heirs : Int32) (t_kindOf : Nat → Int32) (t_worthOf : Nat → Int32) (t_thingOf : Nat → Int32) (t_changesOf : Nat → Int32) (t_changes : Int32) (t_heard : Int32) (t_heardHeir : Nat → Int32) (t_heardOne : Nat → Int32) (t_heardTwo : Nat → Int32) (t_heardMore : Nat → Int32) (t_pageLength : Int32) (t_page : Nat → Int32) (t_says : Nat → Int32) (t_dealt : Nat → Int32) (t_farOf : Nat → Int32) (t_endMany : Int32) (t_endMost : Int32) (t_endLeast : Int32) (t_endFew : Int32) (t_seedNow : Int64) (t_saved : Nat → Int32) (t_isKept : Int32) (t_keptWill : Int32) (t_keptChanges : Int32) (t_keptHeard : Int32) (t_keptWorth : Nat → Int32) (t_keptThing : Nat → Int32) (t_keptChangesOf : Nat → Int32) (t_keptHeir : Nat → Int32) (t_keptOne : Nat → Int32) (t_keptTwo : Nat → Int32) (t_keptMore : Nat → Int32) (t_h : Int64) (x1 : Int32) (x2 : Int32) {rr : Int32}  (hf : f_X7_as t_heirs t_kindOf x1 x2 = some rr) : Ct l yX7_as wsX7_as rm_X7_as D cI cB kK kV [.ref (ad_t 0), .int x1, .int x2] (w_X7 cI cB ad_t t_wills t_heirs t_kindOf t_worthOf t_thingOf t_changesOf t_changes t_heard t_heardHeir t_heardOne t_heardTwo t_heardMore t_pageLength t_page t_says t_dealt t_farOf t_endMany t_endMost t_endLeast t_endFew t_seedNow t_saved t_isKept t_keptWill t_keptChanges t_keptHeard t_keptWorth t_keptThing t_keptChangesOf t_keptHeir t_keptOne t_keptTwo t_keptMore t_h) (w_X7 cI cB ad_t t_wills t_heirs t_kindOf t_worthOf t_thingOf t_changesOf t_changes t_heard t_heardHeir t_heardOne t_heardTwo t_heardMore t_pageLength t_page t_says t_dealt t_farOf t_endMany t_endMost t_endLeast t_endFew t_seedNow t_saved t_isKept t_keptWill t_keptChanges t_keptHeard t_keptWorth t_keptThing t_keptChangesOf t_keptHeir t_keptOne t_keptTwo t_keptMore t_h) (some (.int rr)) := by
  refine Ct.of (cc := cX7_as) (maxL := 4) (ret := (some .int)) (by decide) rfl (Nat.le_of_ble_eq_true rfl) rfl ?_
  intro p e s m below meth c A ls F hP hD hS hl
  have hl : lv_has ls 4 [(0, .ref (ad_t 0)), (1, .int x1), (2, .int x2)] := hl
  obtain ⟨hx, hb, hml, hown, hts, hrt, hlocks, hK, hA, hZ⟩ := id F
  obtain ⟨H, hH⟩ : ∃ H, H = s.heap := ⟨_, rfl⟩
  obtain ⟨locs, hLo⟩ : ∃ q : List Loc, q = [] := ⟨_, rfl⟩
  refine (?_ : W p l e rm_X7_as s m _ below meth c s.heap [] 0 0 _ _)
  rw [← hH, ← hLo]
  rw [← hH] at hP
  have hS : va_S A s.heap H locs := by rw [hH, hLo]; exact hS
  refine lv_aload_n hx hb dX7_as_0 rfl (lv_at hl 0 rfl) ?_
  refine lv_iload_n hx hb dX7_as_1 rfl (lv_at hl 1 rfl) ?_
  obtain ⟨v1, e2, hf⟩ := bnd hf
  refine cV F hP hD hS (k_X7_isHeir l ad_t t_wills t_heirs t_kindOf t_worthOf t_thingOf t_changesOf t_changes t_heard t_heardHeir t_heardOne t_heardTwo t_heardMore t_pageLength t_page t_says t_dealt t_farOf t_endMany t_endMost t_endLeast t_endFew t_seedNow t_saved t_isKept t_keptWill t_keptChanges t_keptHeard t_keptWorth t_keptThing t_keptChangesOf t_keptHeir t_keptOne t_keptTwo t_keptMore t_h x1 e2) gX7_as_X7_isHeir rfl ⟨rfl, rfl⟩ nd_X7_isHeir ⟨Nat.le_of_ble_eq_true rfl, Nat.le_of_ble_eq_true rfl⟩ 0 7 rfl rfl rfl hl.1 rfl (Nat.le_of_ble_eq_true rfl) dX7_as_2 (pm0 (w_X7 cI cB ad_t t_wills t_heirs t_kindOf t_worthOf t_thingOf t_changesOf t_changes t_heard t_heardHeir t_heardOne t_heardTwo t_heardMore t_pageLength t_page t_says t_dealt t_farOf t_endMany t_endMost t_endLeast t_endFew t_seedNow t_saved t_isKept t_keptWill t_keptChanges t_keptHeard t_keptWorth t_keptThing t_keptChangesOf t_keptHeir t_keptOne t_keptTwo t_keptMore t_h)) (pm0 (w_X7 cI cB ad_t t_wills t_heirs t_kindOf t_worthOf t_thingOf t_changesOf t_changes t_heard t_heardHeir t_heardOne t_heardTwo t_heardMore t_pageLength t_page t_says t_dealt t_farOf t_endMany t_endMost t_endLeast t_endFew t_seedNow t_saved t_isKept t_keptWill t_keptChanges t_keptHeard t_keptWorth t_keptThing t_keptChangesOf t_keptHeir t_keptOne t_keptTwo t_keptMore t_h)) (fun H locs hP hD hS => ?_)
  refine lv_if_ne (tgt := 11) hx hb dX7_as_5 (by decide) (fun c3 => ?_) (fun c3 => ?_)
  · replace hf := (if_neg c3).symm.trans hf
    refine lv_iload_n hx hb dX7_as_11 rfl (lv_at hl 2 rfl) ?_
    refine lv_iconst (v := 0) hx hb dX7_as_12 (by decide) ?_
    refine lv_iconst (v := 4) hx hb dX7_as_13 (by decide) ?_
    obtain ⟨v4, e5, hf⟩ := bnd hf
    refine cS F hP hD hS (k_X7_within l  x2 0 4 e5) gX7_as_X7_within rfl ⟨rfl, rfl⟩ nd_X7_within ⟨Nat.le_of_ble_eq_true rfl, Nat.le_of_ble_eq_true rfl⟩ rfl hl.1 rfl (Nat.le_of_ble_eq_true rfl) dX7_as_14 (pmE (w_X7 cI cB ad_t t_wills t_heirs t_kindOf t_worthOf t_thingOf t_changesOf t_changes t_heard t_heardHeir t_heardOne t_heardTwo t_heardMore t_pageLength t_page t_says t_dealt t_farOf t_endMany t_endMost t_endLeast t_endFew t_seedNow t_saved t_isKept t_keptWill t_keptChanges t_keptHeard t_keptWorth t_keptThing t_keptChangesOf t_keptHeir t_keptOne t_keptTwo t_keptMore t_h)) (pmE (w_X7 cI cB ad_t t_wills t_heirs t_kindOf t_worthOf t_thingOf t_changesOf t_changes t_heard t_heardHeir t_heardOne t_heardTwo t_heardMore t_pageLength t_page t_says t_dealt t_farOf t_endMany t_endMost t_endLeast t_endFew t_seedNow t_saved t_isKept t_keptWill t_keptChanges t_keptHeard t_keptWorth t_keptThing t_keptChangesOf t_keptHeir t_keptOne t_keptTwo t_keptMore t_h)) (fun H locs hP hD hS => ?_)
    refine lv_if_ne (tgt := 23) hx hb dX7_as_17 (by decide) (fun c6 => ?_) (fun c6 => ?_)
    · replace hf := (if_neg c6).symm.trans hf
      refine lv_aload_n hx hb dX7_as_23 rfl (lv_at hl 0 rfl) ?_
      refine gf F hP in_X7_as_X7 0 rfl rfl 2 (by decide) 1 rfl rfl dX7_as_24 ?_
      refine lv_iload_n hx hb dX7_as_27 rfl (lv_at hl 1 rfl) ?_
      obtain ⟨v7, ev7, hf⟩ := bnd hf
      refine ald F hP 1 rfl ev7 dX7_as_28 ?_
      refine lv_istore_n (lv' := [(3, .int v7), (0, .ref (ad_t 0)), (1, .int x1), (2, .int x2)]) hx hb dX7_as_29 rfl hl (by decide) rfl (fun ls hl => ?_)
      refine lv_iload_n hx hb dX7_as_30 rfl (lv_at hl 3 rfl) ?_
      refine lv_if_eq (tgt := 49) hx hb dX7_as_31 (by decide) (fun c8 => ?_) (fun c8 => ?_)
      · replace hf := (if_pos c8).symm.trans hf
        exact b_X7_as_49 F  x1 H locs ls hP hD hS (lv_sub hl [1, 2] rfl) hf
      · replace hf := (if_neg c8).symm.trans hf
        refine lv_iload_n hx hb dX7_as_34 rfl (lv_at hl 0 rfl) ?_
        refine lv_iload_n hx hb dX7_as_35 rfl (lv_at hl 3 rfl) ?_
        refine lv_icmp_eq (tgt := 49) hx hb dX7_as_36 (by decide) (fun c9 => ?_) (fun c9 => ?_)
        · replace hf := (if_pos c9).symm.trans hf
          exact b_X7_as_49 F  x1 H locs ls hP hD hS (lv_sub hl [1, 2] rfl) hf
        · replace hf := (if_neg c9).symm.trans hf
          refine lv_iload_n hx hb dX7_as_39 rfl (lv_at hl 3 rfl) ?_
          refine lv_iconst (v := 1) hx hb dX7_as_40 (by decide) ?_
          refine lv_icmp_ne (tgt := 53) hx hb dX7_as_41 (by decide) (fun c10 => ?_) (fun c10 => ?_)
          · replace hf := (if_neg c10).symm.trans hf
            refine lv_iconst (v := (-1)) hx hb dX7_as_53 (by decide) ?_
            replace hf : (some (-1) : Option (Int32)) = some rr := hf
            cases hf
            exact ret_i F hP hS dX7_as_54
          · replace hf := (if_pos c10).symm.trans hf
            refine lv_iload_n hx hb dX7_as_44 rfl (lv_at hl 0 rfl) ?_
            refine lv_iconst (v := 4) hx hb dX7_as_45 (by decide) ?_
            refine lv_icmp_ne (tgt := 53) hx hb dX7_as_46 (by decide) (fun c11 => ?_) (fun c11 => ?_)
            · replace hf := (if_neg c11).symm.trans hf
              refine lv_iconst (v := (-1)) hx hb dX7_as_53 (by decide) ?_
              replace hf : (some (-1) : Option (Int32)) = some rr := hf
              cases hf
              exact ret_i F hP hS dX7_as_54
            · replace hf := (if_pos c11).symm.trans hf
              exact b_X7_as_49 F  x1 H locs ls hP hD hS (lv_sub hl [1, 2] rfl) hf
    · replace hf := (if_pos c6).symm.trans hf
      refine lv_bipush (v := (-102)) hx hb dX7_as_20 (by decide) ?_
      replace hf : (some (-102) : Option (Int32)) = some rr := hf
      cases hf
      exact ret_i F hP hS dX7_as_22
  · replace hf := (if_pos c3).symm.trans hf
    refine lv_bipush (v := (-101)) hx hb dX7_as_8 (by decide) ?_
    replace hf : (some (-101) : Option (Int32)) = some rr := hf
    cases hf
    exact ret_i F hP hS dX7_as_10

/-! X7_whoHas -/
def rm_X7_whoHas : Room := { frames := 0, cells := 0, slots := 0, locals := 0 }
theorem in_X7_whoHas_X7 : ∀ w ∈ u_ws RX7 TX7 35, w ∈ wsX7_whoHas := fun _ h => List.mem_cons_of_mem _ (List.mem_append_right _ (h))
theorem nd_X7_whoHas : yX7_whoHas.cls = RX7 ∧ yX7_whoHas.cls ≠ "java/lang/invoke/MethodHandle" ∧ yX7_whoHas.cls ≠ "java/lang/invoke/VarHandle" ∧ (parseMethodDescriptor yX7_whoHas.desc).map (fun d => d.parameters.length) = some 1 := by decide +kernel
def f_X7_whoHas_27 (t_heirs : Int32) (t_thingOf : Nat → Int32) (back_4 : Int32 → Int32 → Int32 → Option (Int32)) (x1 : Int32) (x3 : Int32) (k0 : Int32) : Option (Int32) := back_4 x1 k0 (x3 + 1)
def f_X7_whoHas_4 (t_heirs : Int32) (t_thingOf : Nat → Int32)  : Nat → Int32 → Int32 → Int32 → Option (Int32)
  | 0, _, _, _ => none
  | n + 1, x1, x2, x3 => (if t_heirs ≤ x3 then some x2 else (rd t_thingOf 4 x3).bind (fun v2 => (if v2 = x1 then f_X7_whoHas_27 t_heirs t_thingOf (f_X7_whoHas_4 t_heirs t_thingOf  n) x1 x3 x3 else f_X7_whoHas_27 t_heirs t_thingOf (f_X7_whoHas_4 t_heirs t_thingOf  n) x1 x3 x2)))
def f_X7_whoHas (t_heirs : Int32) (t_thingOf : Nat → Int32) (x1 : Int32) : Option (Int32) := f_X7_whoHas_4 t_heirs t_thingOf 300 x1 (-1) 0
set_option maxHeartbeats 4000000 in
set_option maxRecDepth 100000 in
theorem b_X7_whoHas_27 {p : Program} {l : Launch} {e : Env} {s : State} {m : MethodId} {args : Array Value} {below : List Frame} {meth : Method} {c : Code} {D : va_G} {cI cB : ClassId} {kK kV : Nat → Nat} {A : Nat → Prop} (F : Fx p m c s meth args cX7_whoHas 4 RX7 wsX7_whoHas (some .int) D cI cB kK kV A) {ad_t : Nat → Nat} {t_wills : Int32} {t_heirs : Int32} {t_kindOf : Nat → Int32} {t_worthOf : Nat → Int32} {t_thingOf : Nat → Int32} {t_changesOf : Nat → Int32} {t_changes : Int32} {t_heard : Int32} {t_heardHeir : Nat → Int32} {t_heardOne : Nat → Int32} {t_heardTwo : Nat → Int32} {t_heardMore : Nat → Int32} {t_pageLength : Int32} {t_page : Nat → Int32} {t_says : Nat → Int32} {t_dealt : Nat → Int32} {t_farOf : Nat → Int32} {t_endMany : Int32} {t_endMost : Int32} {t_endLeast : Int32} {t_endFew : Int32} {t_seedNow : Int64} {t_saved : Nat → Int32} {t_isKept : Int32} {t_keptWill : Int32} {t_keptChanges : Int32} {t_keptHeard : Int32} {t_keptWorth : Nat → Int32} {t_keptThing : Nat → Int32} {t_keptChangesOf : Nat → Int32} {t_keptHeir : Nat → Int32} {t_keptOne : Nat → Int32} {t_keptTwo : Nat → Int32} {t_keptMore : Nat → Int32} {t_h : Int64} {rr : Int32}  (back_4 : Int32 → Int32 → Int32 → Option (Int32)) (hb_4 : ∀ (x1 : Int32) (x2 : Int32) (x3 : Int32) (H : Heap) (locs : List Loc) (ls : Array Slot), va_P D vwCl (w_X7 cI cB ad_t t_wills t_heirs t_kindOf t_worthOf t_thingOf t_changesOf t_changes t_heard t_heardHeir t_heardOne t_heardTwo t_heardMore t_pageLength t_page t_says t_dealt t_farOf t_endMany t_endMost t_endLeast t_endFew t_seedNow t_saved t_isKept t_keptWill t_keptChanges t_keptHeard t_keptWorth t_keptThing t_keptChangesOf t_keptHeir t_keptOne t_keptTwo t_keptMore t_h) H → va_D A (w_X7 cI cB ad_t t_wills t_heirs t_kindOf t_worthOf t_thingOf t_changesOf t_changes t_heard t_heardHeir t_heardOne t_heardTwo t_heardMore t_pageLength t_page t_says t_dealt t_farOf t_endMany t_endMost t_endLeast t_endFew t_seedNow t_saved t_isKept t_keptWill t_keptChanges t_keptHeard t_keptWorth t_keptThing t_keptChangesOf t_keptHeir t_keptOne t_keptTwo t_keptMore t_h) → va_S A s.heap H locs → lv_has ls 4 [(0, .ref (ad_t 0)), (1, .int x1), (2, .int x2), (3, .int x3)] → back_4 x1 x2 x3 = some rr → W p l e rm_X7_whoHas s m args below meth c H locs 0 0 (Zq D below args s A (w_X7 cI cB ad_t t_wills t_heirs t_kindOf t_worthOf t_thingOf t_changesOf t_changes t_heard t_heardHeir t_heardOne t_heardTwo t_heardMore t_pageLength t_page t_says t_dealt t_farOf t_endMany t_endMost t_endLeast t_endFew t_seedNow t_saved t_isKept t_keptWill t_keptChanges t_keptHeard t_keptWorth t_keptThing t_keptChangesOf t_keptHeir t_keptOne t_keptTwo t_keptMore t_h) (some (.int rr))) (F0 m 4 ls [])) : ∀ (x1 : Int32) (x3 : Int32) (k0 : Int32) (H : Heap) (locs : List Loc) (ls : Array Slot), va_P D vwCl (w_X7 cI cB ad_t t_wills t_heirs t_kindOf t_worthOf t_thingOf t_changesOf t_changes t_heard t_heardHeir t_heardOne t_heardTwo t_heardMore t_pageLength t_page t_says t_dealt t_farOf t_endMany t_endMost t_endLeast t_endFew t_seedNow t_saved t_isKept t_keptWill t_keptChanges t_keptHeard t_keptWorth t_keptThing t_keptChangesOf t_keptHeir t_keptOne t_keptTwo t_keptMore t_h) H → va_D A (w_X7 cI cB ad_t t_wills t_heirs t_kindOf t_worthOf t_thingOf t_changesOf t_changes t_heard t_heardHeir t_heardOne t_heardTwo t_heardMore t_pageLength t_page t_says t_dealt t_farOf t_endMany t_endMost t_endLeast t_endFew t_seedNow t_saved t_isKept t_keptWill t_keptChanges t_keptHeard t_keptWorth t_keptThing t_keptChangesOf t_keptHeir t_keptOne t_keptTwo t_keptMore t_h) → va_S A s.heap H locs → lv_has ls 4 [(0, .ref (ad_t 0)), (1, .int x1), (3, .int x3)] → f_X7_whoHas_27 t_heirs t_thingOf back_4 x1 x3 k0 = some rr → W p l e rm_X7_whoHas s m args below meth c H locs 0 0 (Zq D below args s A (w_X7 cI cB ad_t t_wills t_heirs t_kindOf t_worthOf t_thingOf t_changesOf t_changes t_heard t_heardHeir t_heardOne t_heardTwo t_heardMore t_pageLength t_page t_says t_dealt t_farOf t_endMany t_endMost t_endLeast t_endFew t_seedNow t_saved t_isKept t_keptWill t_keptChanges t_keptHeard t_keptWorth t_keptThing t_keptChangesOf t_keptHeir t_keptOne t_keptTwo t_keptMore t_h) (some (.int rr))) (F0 m 27 ls [.int k0]) := by
  obtain ⟨hx, hb, hml, hown, hts, hrt, hlocks, hK, hA, hZ⟩ := id F
  intro x1 x3 k0 H locs ls hP hD hS hl hf
  refine lv_istore_n (lv' := [(2, .int k0), (0, .ref (ad_t 0)), (1, .int x1), (3, .int x3)]) hx hb dX7_whoHas_27 rfl hl (by decide) rfl (fun ls hl => ?_)
  refine lv_iinc (v := (x3 + 1)) (lv' := [(3, .int (x3 + 1)), (2, .int k0), (0, .ref (ad_t 0)), (1, .int x1)]) hx hb dX7_whoHas_28 hl (k := 3) rfl rfl (by decide) rfl (fun ls hl => ?_)
  refine lv_goto (tgt := 4) hx hb dX7_whoHas_31 (by decide) ?_
  exact hb_4 x1 k0 (x3 + 1) H locs ls hP hD hS (lv_sub hl [2, 3, 1, 0] rfl) hf

set_option maxHeartbeats 4000000 in
set_option maxRecDepth 100000 in
theorem b_X7_whoHas_4 {p : Program} {l : Launch} {e : Env} {s : State} {m : MethodId} {args : Array Value} {below : List Frame} {meth : Method} {c : Code} {D : va_G} {cI cB : ClassId} {kK kV : Nat → Nat} {A : Nat → Prop} (F : Fx p m c s meth args cX7_whoHas 4 RX7 wsX7_whoHas (some .int) D cI cB kK kV A) {ad_t : Nat → Nat} {t_wills : Int32} {t_heirs : Int32} {t_kindOf : Nat → Int32} {t_worthOf : Nat → Int32} {t_thingOf : Nat → Int32} {t_changesOf : Nat → Int32} {t_changes : Int32} {t_heard : Int32} {t_heardHeir : Nat → Int32} {t_heardOne : Nat → Int32} {t_heardTwo : Nat → Int32} {t_heardMore : Nat → Int32} {t_pageLength : Int32} {t_page : Nat → Int32} {t_says : Nat → Int32} {t_dealt : Nat → Int32} {t_farOf : Nat → Int32} {t_endMany : Int32} {t_endMost : Int32} {t_endLeast : Int32} {t_endFew : Int32} {t_seedNow : Int64} {t_saved : Nat → Int32} {t_isKept : Int32} {t_keptWill : Int32} {t_keptChanges : Int32} {t_keptHeard : Int32} {t_keptWorth : Nat → Int32} {t_keptThing : Nat → Int32} {t_keptChangesOf : Nat → Int32} {t_keptHeir : Nat → Int32} {t_keptOne : Nat → Int32} {t_keptTwo : Nat → Int32} {t_keptMore : Nat → Int32} {t_h : Int64} {rr : Int32}  : ∀ (n : Nat), ∀ (x1 : Int32) (x2 : Int32) (x3 : Int32) (H : Heap) (locs : List Loc) (ls : Array Slot), va_P D vwCl (w_X7 cI cB ad_t t_wills t_heirs t_kindOf t_worthOf t_thingOf t_changesOf t_changes t_heard t_heardHeir t_heardOne t_heardTwo t_heardMore t_pageLength t_page t_says t_dealt t_farOf t_endMany t_endMost t_endLeast t_endFew t_seedNow t_saved t_isKept t_keptWill t_keptChanges t_keptHeard t_keptWorth t_keptThing t_keptChangesOf t_keptHeir t_keptOne t_keptTwo t_keptMore t_h) H → va_D A (w_X7 cI cB ad_t t_wills t_heirs t_kindOf t_worthOf t_thingOf t_changesOf t_changes t_heard t_heardHeir t_heardOne t_heardTwo t_heardMore t_pageLength t_page t_says t_dealt t_farOf t_endMany t_endMost t_endLeast t_endFew t_seedNow t_saved t_isKept t_keptWill t_keptChanges t_keptHeard t_keptWorth t_keptThing t_keptChangesOf t_keptHeir t_keptOne t_keptTwo t_keptMore t_h) → va_S A s.heap H locs → lv_has ls 4 [(0, .ref (ad_t 0)), (1, .int x1), (2, .int x2), (3, .int x3)] → f_X7_whoHas_4 t_heirs t_thingOf  n x1 x2 x3 = some rr → W p l e rm_X7_whoHas s m args below meth c H locs 0 0 (Zq D below args s A (w_X7 cI cB ad_t t_wills t_heirs t_kindOf t_worthOf t_thingOf t_changesOf t_changes t_heard t_heardHeir t_heardOne t_heardTwo t_heardMore t_pageLength t_page t_says t_dealt t_farOf t_endMany t_endMost t_endLeast t_endFew t_seedNow t_saved t_isKept t_keptWill t_keptChanges t_keptHeard t_keptWorth t_keptThing t_keptChangesOf t_keptHeir t_keptOne t_keptTwo t_keptMore t_h) (some (.int rr))) (F0 m 4 ls []) := by
  obtain ⟨hx, hb, hml, hown, hts, hrt, hlocks, hK, hA, hZ⟩ := id F
  intro n
  induction n with
  | zero =>
    intro x1 x2 x3 H locs ls hP hD hS hl hf
    cases hf
  | succ n ih =>
    intro x1 x2 x3 H locs ls hP hD hS hl hf
    refine lv_iload_n hx hb dX7_whoHas_4 rfl (lv_at hl 3 rfl) ?_
    refine lv_aload_n hx hb dX7_whoHas_5 rfl (lv_at hl 0 rfl) ?_
    refine gf F hP in_X7_whoHas_X7 0 rfl rfl 1 (by decide) 1 rfl rfl dX7_whoHas_6 ?_
    refine lv_icmp_ge (tgt := 34) hx hb dX7_whoHas_9 (by decide) (fun c1 => ?_) (fun c1 => ?_)
    · replace hf := (if_pos c1).symm.trans hf
      refine lv_iload_n hx hb dX7_whoHas_34 rfl (lv_at hl 2 rfl) ?_
      replace hf : (some x2 : Option (Int32)) = some rr := hf
      cases hf
      exact ret_i F hP hS dX7_whoHas_35
    · replace hf := (if_neg c1).symm.trans hf
      refine lv_aload_n hx hb dX7_whoHas_12 rfl (lv_at hl 0 rfl) ?_
      refine gf F hP in_X7_whoHas_X7 0 rfl rfl 4 (by decide) 2 rfl rfl dX7_whoHas_13 ?_
      refine lv_iload_n hx hb dX7_whoHas_16 rfl (lv_at hl 3 rfl) ?_
      obtain ⟨v2, ev2, hf⟩ := bnd hf
      refine ald F hP 3 rfl ev2 dX7_whoHas_17 ?_
      refine lv_iload_n hx hb dX7_whoHas_18 rfl (lv_at hl 1 rfl) ?_
      refine lv_icmp_ne (tgt := 26) hx hb dX7_whoHas_19 (by decide) (fun c3 => ?_) (fun c3 => ?_)
      · replace hf := (if_neg c3).symm.trans hf
        refine lv_iload_n hx hb dX7_whoHas_26 rfl (lv_at hl 2 rfl) ?_
        exact b_X7_whoHas_27 F (f_X7_whoHas_4 t_heirs t_thingOf  n) ih x1 x3 x2 H locs ls hP hD hS (lv_sub hl [0, 1, 3] rfl) hf
      · replace hf := (if_pos c3).symm.trans hf
        refine lv_iload_n hx hb dX7_whoHas_22 rfl (lv_at hl 3 rfl) ?_
        refine lv_goto (tgt := 27) hx hb dX7_whoHas_23 (by decide) ?_
        exact b_X7_whoHas_27 F (f_X7_whoHas_4 t_heirs t_thingOf  n) ih x1 x3 x3 H locs ls hP hD hS (lv_sub hl [0, 1, 3] rfl) hf

set_option maxHeartbeats 4000000 in
set_option maxRecDepth 100000 in
theorem k_X7_whoHas (l : Launch) {D : va_G} {cI cB : ClassId} {kK kV : Nat → Nat} (ad_t : Nat → Nat) (t_wills : Int32) (t_heirs : Int32) (t_kindOf : Nat → Int32) (t_worthOf : Nat → Int32) (t_thingOf : Nat → Int32) (t_changesOf : Nat → Int32) (t_changes : Int32) (t_heard : Int32) (t_heardHeir : Nat → Int32) (t_heardOne : Nat → Int32) (t_heardTwo : Nat → Int32) (t_heardMore : Nat → Int32) (t_pageLength : Int32) (t_page : Nat → Int32) (t_says : Nat → Int32) (t_dealt : Nat → Int32) (t_farOf : Nat → Int32) (t_endMany : Int32) (t_endMost : Int32) (t_endLeast : Int32) (t_endFew : Int32) (t_seedNow : Int64) (t_saved : Nat → Int32) (t_isKept : Int32) (t_keptWill : Int32) (t_keptChanges : Int32) (t_keptHeard : Int32) (t_keptWorth : Nat → Int32) (t_keptThing : Nat → Int32) (t_keptChangesOf : Nat → Int32) (t_keptHeir : Nat → Int32) (t_keptOne : Nat → Int32) (t_keptTwo : Nat → Int32) (t_keptMore : Nat → Int32) (t_h : Int64) (x1 : Int32) {rr : Int32}  (hf : f_X7_whoHas t_heirs t_thingOf x1 = some rr) : Ct l yX7_whoHas wsX7_whoHas rm_X7_whoHas D cI cB kK kV [.ref (ad_t 0), .int x1] (w_X7 cI cB ad_t t_wills t_heirs t_kindOf t_worthOf t_thingOf t_changesOf t_changes t_heard t_heardHeir t_heardOne t_heardTwo t_heardMore t_pageLength t_page t_says t_dealt t_farOf t_endMany t_endMost t_endLeast t_endFew t_seedNow t_saved t_isKept t_keptWill t_keptChanges t_keptHeard t_keptWorth t_keptThing t_keptChangesOf t_keptHeir t_keptOne t_keptTwo t_keptMore t_h) (w_X7 cI cB ad_t t_wills t_heirs t_kindOf t_worthOf t_thingOf t_changesOf t_changes t_heard t_heardHeir t_heardOne t_heardTwo t_heardMore t_pageLength t_page t_says t_dealt t_farOf t_endMany t_endMost t_endLeast t_endFew t_seedNow t_saved t_isKept t_keptWill t_keptChanges t_keptHeard t_keptWorth t_keptThing t_keptChangesOf t_keptHeir t_keptOne t_keptTwo t_keptMore t_h) (some (.int rr)) := by
  refine Ct.of (cc := cX7_whoHas) (maxL := 4) (ret := (some .int)) (by decide) rfl (Nat.le_of_ble_eq_true rfl) rfl ?_
  intro p e s m below meth c A ls F hP hD hS hl
  have hl : lv_has ls 4 [(0, .ref (ad_t 0)), (1, .int x1)] := hl
  obtain ⟨hx, hb, hml, hown, hts, hrt, hlocks, hK, hA, hZ⟩ := id F
  obtain ⟨H, hH⟩ : ∃ H, H = s.heap := ⟨_, rfl⟩
  obtain ⟨locs, hLo⟩ : ∃ q : List Loc, q = [] := ⟨_, rfl⟩
  refine (?_ : W p l e rm_X7_whoHas s m _ below meth c s.heap [] 0 0 _ _)
  rw [← hH, ← hLo]
  rw [← hH] at hP
  have hS : va_S A s.heap H locs := by rw [hH, hLo]; exact hS
  refine lv_iconst (v := (-1)) hx hb dX7_whoHas_0 (by decide) ?_
  refine lv_istore_n (lv' := [(2, .int (-1)), (0, .ref (ad_t 0)), (1, .int x1)]) hx hb dX7_whoHas_1 rfl hl (by decide) rfl (fun ls hl => ?_)
  refine lv_iconst (v := 0) hx hb dX7_whoHas_2 (by decide) ?_
  refine lv_istore_n (lv' := [(3, .int 0), (2, .int (-1)), (0, .ref (ad_t 0)), (1, .int x1)]) hx hb dX7_whoHas_3 rfl hl (by decide) rfl (fun ls hl => ?_)
  exact b_X7_whoHas_4 F 300 x1 (-1) 0 H locs ls hP hD hS (lv_sub hl [2, 3, 1, 0] rfl) hf

/-! X7_has -/
def rm_X7_has : Room := { frames := 2, cells := 0, slots := 0, locals := 43 }
theorem nd_X7_has : yX7_has.cls = RX7 ∧ yX7_has.cls ≠ "java/lang/invoke/MethodHandle" ∧ yX7_has.cls ≠ "java/lang/invoke/VarHandle" ∧ (parseMethodDescriptor yX7_has.desc).map (fun d => d.parameters.length) = some 1 := by decide +kernel
def f_X7_has (t_heirs : Int32) (t_thingOf : Nat → Int32) (x1 : Int32) : Option (Int32) := (f_X7_isThing t_heirs x1).bind (fun v1 => (if v1 = 0 then some (-101) else (f_X7_whoHas t_heirs t_thingOf x1).bind (fun v4 => some v4)))
set_option maxHeartbeats 4000000 in
set_option maxRecDepth 100000 in
theorem k_X7_has (l : Launch) {D : va_G} {cI cB : ClassId} {kK kV : Nat → Nat} (ad_t : Nat → Nat) (t_wills : Int32) (t_heirs : Int32) (t_kindOf : Nat → Int32) (t_worthOf : Nat → Int32) (t_thingOf : Nat → Int32) (t_changesOf : Nat → Int32) (t_changes : Int32) (t_heard : Int32) (t_heardHeir : Nat → Int32) (t_heardOne : Nat → Int32) (t_heardTwo : Nat → Int32) (t_heardMore : Nat → Int32) (t_pageLength : Int32) (t_page : Nat → Int32) (t_says : Nat → Int32) (t_dealt : Nat → Int32) (t_farOf : Nat → Int32) (t_endMany : Int32) (t_endMost : Int32) (t_endLeast : Int32) (t_endFew : Int32) (t_seedNow : Int64) (t_saved : Nat → Int32) (t_isKept : Int32) (t_keptWill : Int32) (t_keptChanges : Int32) (t_keptHeard : Int32) (t_keptWorth : Nat → Int32) (t_keptThing : Nat → Int32) (t_keptChangesOf : Nat → Int32) (t_keptHeir : Nat → Int32) (t_keptOne : Nat → Int32) (t_keptTwo : Nat → Int32) (t_keptMore : Nat → Int32) (t_h : Int64) (x1 : Int32) {rr : Int32}  (hf : f_X7_has t_heirs t_thingOf x1 = some rr) : Ct l yX7_has wsX7_has rm_X7_has D cI cB kK kV [.ref (ad_t 0), .int x1] (w_X7 cI cB ad_t t_wills t_heirs t_kindOf t_worthOf t_thingOf t_changesOf t_changes t_heard t_heardHeir t_heardOne t_heardTwo t_heardMore t_pageLength t_page t_says t_dealt t_farOf t_endMany t_endMost t_endLeast t_endFew t_seedNow t_saved t_isKept t_keptWill t_keptChanges t_keptHeard t_keptWorth t_keptThing t_keptChangesOf t_keptHeir t_keptOne t_keptTwo t_keptMore t_h) (w_X7 cI cB ad_t t_wills t_heirs t_kindOf t_worthOf t_thingOf t_changesOf t_changes t_heard t_heardHeir t_heardOne t_heardTwo t_heardMore t_pageLength t_page t_says t_dealt t_farOf t_endMany t_endMost t_endLeast t_endFew t_seedNow t_saved t_isKept t_keptWill t_keptChanges t_keptHeard t_keptWorth t_keptThing t_keptChangesOf t_keptHeir t_keptOne t_keptTwo t_keptMore t_h) (some (.int rr)) := by
  refine Ct.of (cc := cX7_has) (maxL := 2) (ret := (some .int)) (by decide) rfl (Nat.le_of_ble_eq_true rfl) rfl ?_
  intro p e s m below meth c A ls F hP hD hS hl
  have hl : lv_has ls 2 [(0, .ref (ad_t 0)), (1, .int x1)] := hl
  obtain ⟨hx, hb, hml, hown, hts, hrt, hlocks, hK, hA, hZ⟩ := id F
  obtain ⟨H, hH⟩ : ∃ H, H = s.heap := ⟨_, rfl⟩
  obtain ⟨locs, hLo⟩ : ∃ q : List Loc, q = [] := ⟨_, rfl⟩
  refine (?_ : W p l e rm_X7_has s m _ below meth c s.heap [] 0 0 _ _)
  rw [← hH, ← hLo]
  rw [← hH] at hP
  have hS : va_S A s.heap H locs := by rw [hH, hLo]; exact hS
  refine lv_aload_n hx hb dX7_has_0 rfl (lv_at hl 0 rfl) ?_
  refine lv_iload_n hx hb dX7_has_1 rfl (lv_at hl 1 rfl) ?_
  obtain ⟨v1, e2, hf⟩ := bnd hf
  refine cV F hP hD hS (k_X7_isThing l ad_t t_wills t_heirs t_kindOf t_worthOf t_thingOf t_changesOf t_changes t_heard t_heardHeir t_heardOne t_heardTwo t_heardMore t_pageLength t_page t_says t_dealt t_farOf t_endMany t_endMost t_endLeast t_endFew t_seedNow t_saved t_isKept t_keptWill t_keptChanges t_keptHeard t_keptWorth t_keptThing t_keptChangesOf t_keptHeir t_keptOne t_keptTwo t_keptMore t_h x1 e2) gX7_has_X7_isThing rfl ⟨rfl, rfl⟩ nd_X7_isThing ⟨Nat.le_of_ble_eq_true rfl, Nat.le_of_ble_eq_true rfl⟩ 0 7 rfl rfl rfl hl.1 rfl (Nat.le_of_ble_eq_true rfl) dX7_has_2 (pm0 (w_X7 cI cB ad_t t_wills t_heirs t_kindOf t_worthOf t_thingOf t_changesOf t_changes t_heard t_heardHeir t_heardOne t_heardTwo t_heardMore t_pageLength t_page t_says t_dealt t_farOf t_endMany t_endMost t_endLeast t_endFew t_seedNow t_saved t_isKept t_keptWill t_keptChanges t_keptHeard t_keptWorth t_keptThing t_keptChangesOf t_keptHeir t_keptOne t_keptTwo t_keptMore t_h)) (pm0 (w_X7 cI cB ad_t t_wills t_heirs t_kindOf t_worthOf t_thingOf t_changesOf t_changes t_heard t_heardHeir t_heardOne t_heardTwo t_heardMore t_pageLength t_page t_says t_dealt t_farOf t_endMany t_endMost t_endLeast t_endFew t_seedNow t_saved t_isKept t_keptWill t_keptChanges t_keptHeard t_keptWorth t_keptThing t_keptChangesOf t_keptHeir t_keptOne t_keptTwo t_keptMore t_h)) (fun H locs hP hD hS => ?_)
  refine lv_if_eq (tgt := 16) hx hb dX7_has_5 (by decide) (fun c3 => ?_) (fun c3 => ?_)
  · replace hf := (if_pos c3).symm.trans hf
    refine lv_bipush (v := (-101)) hx hb dX7_has_16 (by decide) ?_
    replace hf : (some (-101) : Option (Int32)) = some rr := hf
    cases hf
    exact ret_i F hP hS dX7_has_18
  · replace hf := (if_neg c3).symm.trans hf
    refine lv_aload_n hx hb dX7_has_8 rfl (lv_at hl 0 rfl) ?_
    refine lv_iload_n hx hb dX7_has_9 rfl (lv_at hl 1 rfl) ?_
    obtain ⟨v4, e5, hf⟩ := bnd hf
    refine cV F hP hD hS (k_X7_whoHas l ad_t t_wills t_heirs t_kindOf t_worthOf t_thingOf t_changesOf t_changes t_heard t_heardHeir t_heardOne t_heardTwo t_heardMore t_pageLength t_page t_says t_dealt t_farOf t_endMany t_endMost t_endLeast t_endFew t_seedNow t_saved t_isKept t_keptWill t_keptChanges t_keptHeard t_keptWorth t_keptThing t_keptChangesOf t_keptHeir t_keptOne t_keptTwo t_keptMore t_h x1 e5) gX7_has_X7_whoHas rfl ⟨rfl, rfl⟩ nd_X7_whoHas ⟨Nat.le_of_ble_eq_true rfl, Nat.le_of_ble_eq_true rfl⟩ 0 7 rfl rfl rfl hl.1 rfl (Nat.le_of_ble_eq_true rfl) dX7_has_10 (pm0 (w_X7 cI cB ad_t t_wills t_heirs t_kindOf t_worthOf t_thingOf t_changesOf t_changes t_heard t_heardHeir t_heardOne t_heardTwo t_heardMore t_pageLength t_page t_says t_dealt t_farOf t_endMany t_endMost t_endLeast t_endFew t_seedNow t_saved t_isKept t_keptWill t_keptChanges t_keptHeard t_keptWorth t_keptThing t_keptChangesOf t_keptHeir t_keptOne t_keptTwo t_keptMore t_h)) (pm0 (w_X7 cI cB ad_t t_wills t_heirs t_kindOf t_worthOf t_thingOf t_changesOf t_changes t_heard t_heardHeir t_heardOne t_heardTwo t_heardMore t_pageLength t_page t_says t_dealt t_farOf t_endMany t_endMost t_endLeast t_endFew t_seedNow t_saved t_isKept t_keptWill t_keptChanges t_keptHeard t_keptWorth t_keptThing t_keptChangesOf t_keptHeir t_keptOne t_keptTwo t_keptMore t_h)) (fun H locs hP hD hS => ?_)
    refine lv_goto (tgt := 18) hx hb dX7_has_13 (by decide) ?_
    replace hf : (some v4 : Option (Int32)) = some rr := hf
    cases hf
    exact ret_i F hP hS dX7_has_18

/-! X7_worth -/
def rm_X7_worth : Room := { frames := 2, cells := 0, slots := 0, locals := 43 }
theorem in_X7_worth_X7 : ∀ w ∈ u_ws RX7 TX7 35, w ∈ wsX7_worth := fun _ h => List.mem_cons_of_mem _ (List.mem_append_right _ (h))
theorem nd_X7_worth : yX7_worth.cls = RX7 ∧ yX7_worth.cls ≠ "java/lang/invoke/MethodHandle" ∧ yX7_worth.cls ≠ "java/lang/invoke/VarHandle" ∧ (parseMethodDescriptor yX7_worth.desc).map (fun d => d.parameters.length) = some 3 := by decide +kernel
def f_X7_worth (t_heirs : Int32) (t_worthOf : Nat → Int32) (x1 : Int32) (x2 : Int32) (x3 : Int32) : Option (Int32 × (Nat → Int32)) := (f_X7_isHeir t_heirs x1).bind (fun v1 => (if v1 = 0 then some ((-101), t_worthOf) else (f_X7_isThing t_heirs x2).bind (fun v4 => (if v4 = 0 then some ((-101), t_worthOf) else (f_X7_within x3 0 9).bind (fun v7 => (if v7 = 0 then some ((-102), t_worthOf) else (rd t_worthOf 16 ((4 * x1) + x2)).bind (fun v10 => (wr t_worthOf 16 ((4 * x1) + x2) x3).bind (fun g11 => some (v10, g11)))))))))
set_option maxHeartbeats 4000000 in
set_option maxRecDepth 100000 in
theorem k_X7_worth (l : Launch) {D : va_G} {cI cB : ClassId} {kK kV : Nat → Nat} (ad_t : Nat → Nat) (t_wills : Int32) (t_heirs : Int32) (t_kindOf : Nat → Int32) (t_worthOf : Nat → Int32) (t_thingOf : Nat → Int32) (t_changesOf : Nat → Int32) (t_changes : Int32) (t_heard : Int32) (t_heardHeir : Nat → Int32) (t_heardOne : Nat → Int32) (t_heardTwo : Nat → Int32) (t_heardMore : Nat → Int32) (t_pageLength : Int32) (t_page : Nat → Int32) (t_says : Nat → Int32) (t_dealt : Nat → Int32) (t_farOf : Nat → Int32) (t_endMany : Int32) (t_endMost : Int32) (t_endLeast : Int32) (t_endFew : Int32) (t_seedNow : Int64) (t_saved : Nat → Int32) (t_isKept : Int32) (t_keptWill : Int32) (t_keptChanges : Int32) (t_keptHeard : Int32) (t_keptWorth : Nat → Int32) (t_keptThing : Nat → Int32) (t_keptChangesOf : Nat → Int32) (t_keptHeir : Nat → Int32) (t_keptOne : Nat → Int32) (t_keptTwo : Nat → Int32) (t_keptMore : Nat → Int32) (t_h : Int64) (x1 : Int32) (x2 : Int32) (x3 : Int32) {rr : Int32} {g_t_worthOf : Nat → Int32} (hf : f_X7_worth t_heirs t_worthOf x1 x2 x3 = some (rr, g_t_worthOf)) : Ct l yX7_worth wsX7_worth rm_X7_worth D cI cB kK kV [.ref (ad_t 0), .int x1, .int x2, .int x3] (w_X7 cI cB ad_t t_wills t_heirs t_kindOf t_worthOf t_thingOf t_changesOf t_changes t_heard t_heardHeir t_heardOne t_heardTwo t_heardMore t_pageLength t_page t_says t_dealt t_farOf t_endMany t_endMost t_endLeast t_endFew t_seedNow t_saved t_isKept t_keptWill t_keptChanges t_keptHeard t_keptWorth t_keptThing t_keptChangesOf t_keptHeir t_keptOne t_keptTwo t_keptMore t_h) (w_X7 cI cB ad_t t_wills t_heirs t_kindOf g_t_worthOf t_thingOf t_changesOf t_changes t_heard t_heardHeir t_heardOne t_heardTwo t_heardMore t_pageLength t_page t_says t_dealt t_farOf t_endMany t_endMost t_endLeast t_endFew t_seedNow t_saved t_isKept t_keptWill t_keptChanges t_keptHeard t_keptWorth t_keptThing t_keptChangesOf t_keptHeir t_keptOne t_keptTwo t_keptMore t_h) (some (.int rr)) := by
  refine Ct.of (cc := cX7_worth) (maxL := 5) (ret := (some .int)) (by decide) rfl (Nat.le_of_ble_eq_true rfl) rfl ?_
  intro p e s m below meth c A ls F hP hD hS hl
  have hl : lv_has ls 5 [(0, .ref (ad_t 0)), (1, .int x1), (2, .int x2), (3, .int x3)] := hl
  obtain ⟨hx, hb, hml, hown, hts, hrt, hlocks, hK, hA, hZ⟩ := id F
  obtain ⟨H, hH⟩ : ∃ H, H = s.heap := ⟨_, rfl⟩
  obtain ⟨locs, hLo⟩ : ∃ q : List Loc, q = [] := ⟨_, rfl⟩
  refine (?_ : W p l e rm_X7_worth s m _ below meth c s.heap [] 0 0 _ _)
  rw [← hH, ← hLo]
  rw [← hH] at hP
  have hS : va_S A s.heap H locs := by rw [hH, hLo]; exact hS
  refine lv_aload_n hx hb dX7_worth_0 rfl (lv_at hl 0 rfl) ?_
  refine lv_iload_n hx hb dX7_worth_1 rfl (lv_at hl 1 rfl) ?_
  obtain ⟨v1, e2, hf⟩ := bnd hf
  refine cV F hP hD hS (k_X7_isHeir l ad_t t_wills t_heirs t_kindOf t_worthOf t_thingOf t_changesOf t_changes t_heard t_heardHeir t_heardOne t_heardTwo t_heardMore t_pageLength t_page t_says t_dealt t_farOf t_endMany t_endMost t_endLeast t_endFew t_seedNow t_saved t_isKept t_keptWill t_keptChanges t_keptHeard t_keptWorth t_keptThing t_keptChangesOf t_keptHeir t_keptOne t_keptTwo t_keptMore t_h x1 e2) gX7_worth_X7_isHeir rfl ⟨rfl, rfl⟩ nd_X7_isHeir ⟨Nat.le_of_ble_eq_true rfl, Nat.le_of_ble_eq_true rfl⟩ 0 7 rfl rfl rfl hl.1 rfl (Nat.le_of_ble_eq_true rfl) dX7_worth_2 (pm0 (w_X7 cI cB ad_t t_wills t_heirs t_kindOf t_worthOf t_thingOf t_changesOf t_changes t_heard t_heardHeir t_heardOne t_heardTwo t_heardMore t_pageLength t_page t_says t_dealt t_farOf t_endMany t_endMost t_endLeast t_endFew t_seedNow t_saved t_isKept t_keptWill t_keptChanges t_keptHeard t_keptWorth t_keptThing t_keptChangesOf t_keptHeir t_keptOne t_keptTwo t_keptMore t_h)) (pm0 (w_X7 cI cB ad_t t_wills t_heirs t_kindOf t_worthOf t_thingOf t_changesOf t_changes t_heard t_heardHeir t_heardOne t_heardTwo t_heardMore t_pageLength t_page t_says t_dealt t_farOf t_endMany t_endMost t_endLeast t_endFew t_seedNow t_saved t_isKept t_keptWill t_keptChanges t_keptHeard t_keptWorth t_keptThing t_keptChangesOf t_keptHeir t_keptOne t_keptTwo t_keptMore t_h)) (fun H locs hP hD hS => ?_)
  refine lv_if_eq (tgt := 16) hx hb dX7_worth_5 (by decide) (fun c3 => ?_) (fun c3 => ?_)
  · replace hf := (if_pos c3).symm.trans hf
    refine lv_bipush (v := (-101)) hx hb dX7_worth_16 (by decide) ?_
    replace hf : (some ((-101), t_worthOf) : Option (Int32 × (Nat → Int32))) = some (rr, g_t_worthOf) := hf
    cases hf
    exact ret_i F hP hS dX7_worth_18
  · replace hf := (if_neg c3).symm.trans hf
    refine lv_aload_n hx hb dX7_worth_8 rfl (lv_at hl 0 rfl) ?_
    refine lv_iload_n hx hb dX7_worth_9 rfl (lv_at hl 2 rfl) ?_
    obtain ⟨v4, e5, hf⟩ := bnd hf
    refine cV F hP hD hS (k_X7_isThing l ad_t t_wills t_heirs t_kindOf t_worthOf t_thingOf t_changesOf t_changes t_heard t_heardHeir t_heardOne t_heardTwo t_heardMore t_pageLength t_page t_says t_dealt t_farOf t_endMany t_endMost t_endLeast t_endFew t_seedNow t_saved t_isKept t_keptWill t_keptChanges t_keptHeard t_keptWorth t_keptThing t_keptChangesOf t_keptHeir t_keptOne t_keptTwo t_keptMore t_h x2 e5) gX7_worth_X7_isThing rfl ⟨rfl, rfl⟩ nd_X7_isThing ⟨Nat.le_of_ble_eq_true rfl, Nat.le_of_ble_eq_true rfl⟩ 0 7 rfl rfl rfl hl.1 rfl (Nat.le_of_ble_eq_true rfl) dX7_worth_10 (pm0 (w_X7 cI cB ad_t t_wills t_heirs t_kindOf t_worthOf t_thingOf t_changesOf t_changes t_heard t_heardHeir t_heardOne t_heardTwo t_heardMore t_pageLength t_page t_says t_dealt t_farOf t_endMany t_endMost t_endLeast t_endFew t_seedNow t_saved t_isKept t_keptWill t_keptChanges t_keptHeard t_keptWorth t_keptThing t_keptChangesOf t_keptHeir t_keptOne t_keptTwo t_keptMore t_h)) (pm0 (w_X7 cI cB ad_t t_wills t_heirs t_kindOf t_worthOf t_thingOf t_changesOf t_changes t_heard t_heardHeir t_heardOne t_heardTwo t_heardMore t_pageLength t_page t_says t_dealt t_farOf t_endMany t_endMost t_endLeast t_endFew t_seedNow t_saved t_isKept t_keptWill t_keptChanges t_keptHeard t_keptWorth t_keptThing t_keptChangesOf t_keptHeir t_keptOne t_keptTwo t_keptMore t_h)) (fun H locs hP hD hS => ?_)
    refine lv_if_ne (tgt := 19) hx hb dX7_worth_13 (by decide) (fun c6 => ?_) (fun c6 => ?_)
    · replace hf := (if_neg c6).symm.trans hf
      refine lv_iload_n hx hb dX7_worth_19 rfl (lv_at hl 3 rfl) ?_
      refine lv_iconst (v := 0) hx hb dX7_worth_20 (by decide) ?_
      refine lv_bipush (v := 9) hx hb dX7_worth_21 (by decide) ?_
      obtain ⟨v7, e8, hf⟩ := bnd hf
      refine cS F hP hD hS (k_X7_within l  x3 0 9 e8) gX7_worth_X7_within rfl ⟨rfl, rfl⟩ nd_X7_within ⟨Nat.le_of_ble_eq_true rfl, Nat.le_of_ble_eq_true rfl⟩ rfl hl.1 rfl (Nat.le_of_ble_eq_true rfl) dX7_worth_23 (pmE (w_X7 cI cB ad_t t_wills t_heirs t_kindOf t_worthOf t_thingOf t_changesOf t_changes t_heard t_heardHeir t_heardOne t_heardTwo t_heardMore t_pageLength t_page t_says t_dealt t_farOf t_endMany t_endMost t_endLeast t_endFew t_seedNow t_saved t_isKept t_keptWill t_keptChanges t_keptHeard t_keptWorth t_keptThing t_keptChangesOf t_keptHeir t_keptOne t_keptTwo t_keptMore t_h)) (pmE (w_X7 cI cB ad_t t_wills t_heirs t_kindOf t_worthOf t_thingOf t_changesOf t_changes t_heard t_heardHeir t_heardOne t_heardTwo t_heardMore t_pageLength t_page t_says t_dealt t_farOf t_endMany t_endMost t_endLeast t_endFew t_seedNow t_saved t_isKept t_keptWill t_keptChanges t_keptHeard t_keptWorth t_keptThing t_keptChangesOf t_keptHeir t_keptOne t_keptTwo t_keptMore t_h)) (fun H locs hP hD hS => ?_)
      refine lv_if_ne (tgt := 32) hx hb dX7_worth_26 (by decide) (fun c9 => ?_) (fun c9 => ?_)
      · replace hf := (if_neg c9).symm.trans hf
        refine lv_aload_n hx hb dX7_worth_32 rfl (lv_at hl 0 rfl) ?_
        refine gf F hP in_X7_worth_X7 0 rfl rfl 3 (by decide) 1 rfl rfl dX7_worth_33 ?_
        refine lv_iconst (v := 4) hx hb dX7_worth_36 (by decide) ?_
        refine lv_iload_n hx hb dX7_worth_37 rfl (lv_at hl 1 rfl) ?_
        refine lv_imul hx hb dX7_worth_38 ?_
        refine lv_iload_n hx hb dX7_worth_39 rfl (lv_at hl 2 rfl) ?_
        refine lv_iadd hx hb dX7_worth_40 ?_
        obtain ⟨v10, ev10, hf⟩ := bnd hf
        refine ald F hP 2 rfl ev10 dX7_worth_41 ?_
        refine lv_istore (lv' := [(4, .int v10), (0, .ref (ad_t 0)), (1, .int x1), (2, .int x2), (3, .int x3)]) hx hb dX7_worth_42 hl (by decide) rfl (fun ls hl => ?_)
        refine lv_aload_n hx hb dX7_worth_44 rfl (lv_at hl 1 rfl) ?_
        refine gf F hP in_X7_worth_X7 0 rfl rfl 3 (by decide) 1 rfl rfl dX7_worth_45 ?_
        refine lv_iconst (v := 4) hx hb dX7_worth_48 (by decide) ?_
        refine lv_iload_n hx hb dX7_worth_49 rfl (lv_at hl 2 rfl) ?_
        refine lv_imul hx hb dX7_worth_50 ?_
        refine lv_iload_n hx hb dX7_worth_51 rfl (lv_at hl 3 rfl) ?_
        refine lv_iadd hx hb dX7_worth_52 ?_
        refine lv_iload_n hx hb dX7_worth_53 rfl (lv_at hl 4 rfl) ?_
        obtain ⟨g11, eg11, hf⟩ := bnd hf
        refine ast F hP hD hS 2 rfl eg11 dX7_worth_54 (w_X7 cI cB ad_t t_wills t_heirs t_kindOf g11 t_thingOf t_changesOf t_changes t_heard t_heardHeir t_heardOne t_heardTwo t_heardMore t_pageLength t_page t_says t_dealt t_farOf t_endMany t_endMost t_endLeast t_endFew t_seedNow t_saved t_isKept t_keptWill t_keptChanges t_keptHeard t_keptWorth t_keptThing t_keptChangesOf t_keptHeir t_keptOne t_keptTwo t_keptMore t_h) rfl (fun H locs hP hD hS => ?_)
        refine lv_iload hx hb dX7_worth_55 (lv_at hl 0 rfl) ?_
        replace hf : (some (v10, g11) : Option (Int32 × (Nat → Int32))) = some (rr, g_t_worthOf) := hf
        cases hf
        exact ret_i F hP hS dX7_worth_57
      · replace hf := (if_pos c9).symm.trans hf
        refine lv_bipush (v := (-102)) hx hb dX7_worth_29 (by decide) ?_
        replace hf : (some ((-102), t_worthOf) : Option (Int32 × (Nat → Int32))) = some (rr, g_t_worthOf) := hf
        cases hf
        exact ret_i F hP hS dX7_worth_31
    · replace hf := (if_pos c6).symm.trans hf
      refine lv_bipush (v := (-101)) hx hb dX7_worth_16 (by decide) ?_
      replace hf : (some ((-101), t_worthOf) : Option (Int32 × (Nat → Int32))) = some (rr, g_t_worthOf) := hf
      cases hf
      exact ret_i F hP hS dX7_worth_18

/-! X7_deal -/
def rm_X7_deal : Room := { frames := 4, cells := 0, slots := 0, locals := 92 }
theorem in_X7_deal_X7 : ∀ w ∈ u_ws RX7 TX7 35, w ∈ wsX7_deal := fun _ h => List.mem_cons_of_mem _ (List.mem_append_right _ (h))
theorem nd_X7_deal : yX7_deal.cls = RX7 ∧ yX7_deal.cls ≠ "java/lang/invoke/MethodHandle" ∧ yX7_deal.cls ≠ "java/lang/invoke/VarHandle" ∧ (parseMethodDescriptor yX7_deal.desc).map (fun d => d.parameters.length) = some 0 := by decide +kernel
def f_X7_deal (t_heirs : Int32) (t_kindOf : Nat → Int32) (t_worthOf : Nat → Int32) (t_thingOf : Nat → Int32) (t_says : Nat → Int32) (t_dealt : Nat → Int32)  : Option (Int32 × (Nat → Int32) × (Nat → Int32) × (Nat → Int32)) := (if t_heirs = 0 then some ((-103), t_thingOf, t_says, t_dealt) else (f_X7_dealNow t_heirs t_kindOf t_worthOf t_thingOf t_says t_dealt).bind (fun (v2, g3, g4, g5) => some (v2, g3, g4, g5)))
set_option maxHeartbeats 4000000 in
set_option maxRecDepth 100000 in
theorem k_X7_deal (l : Launch) {D : va_G} {cI cB : ClassId} {kK kV : Nat → Nat} (ad_t : Nat → Nat) (t_wills : Int32) (t_heirs : Int32) (t_kindOf : Nat → Int32) (t_worthOf : Nat → Int32) (t_thingOf : Nat → Int32) (t_changesOf : Nat → Int32) (t_changes : Int32) (t_heard : Int32) (t_heardHeir : Nat → Int32) (t_heardOne : Nat → Int32) (t_heardTwo : Nat → Int32) (t_heardMore : Nat → Int32) (t_pageLength : Int32) (t_page : Nat → Int32) (t_says : Nat → Int32) (t_dealt : Nat → Int32) (t_farOf : Nat → Int32) (t_endMany : Int32) (t_endMost : Int32) (t_endLeast : Int32) (t_endFew : Int32) (t_seedNow : Int64) (t_saved : Nat → Int32) (t_isKept : Int32) (t_keptWill : Int32) (t_keptChanges : Int32) (t_keptHeard : Int32) (t_keptWorth : Nat → Int32) (t_keptThing : Nat → Int32) (t_keptChangesOf : Nat → Int32) (t_keptHeir : Nat → Int32) (t_keptOne : Nat → Int32) (t_keptTwo : Nat → Int32) (t_keptMore : Nat → Int32) (t_h : Int64)  {rr : Int32} {g_t_thingOf : Nat → Int32} {g_t_says : Nat → Int32} {g_t_dealt : Nat → Int32} (hf : f_X7_deal t_heirs t_kindOf t_worthOf t_thingOf t_says t_dealt = some (rr, g_t_thingOf, g_t_says, g_t_dealt)) : Ct l yX7_deal wsX7_deal rm_X7_deal D cI cB kK kV [.ref (ad_t 0)] (w_X7 cI cB ad_t t_wills t_heirs t_kindOf t_worthOf t_thingOf t_changesOf t_changes t_heard t_heardHeir t_heardOne t_heardTwo t_heardMore t_pageLength t_page t_says t_dealt t_farOf t_endMany t_endMost t_endLeast t_endFew t_seedNow t_saved t_isKept t_keptWill t_keptChanges t_keptHeard t_keptWorth t_keptThing t_keptChangesOf t_keptHeir t_keptOne t_keptTwo t_keptMore t_h) (w_X7 cI cB ad_t t_wills t_heirs t_kindOf t_worthOf g_t_thingOf t_changesOf t_changes t_heard t_heardHeir t_heardOne t_heardTwo t_heardMore t_pageLength t_page g_t_says g_t_dealt t_farOf t_endMany t_endMost t_endLeast t_endFew t_seedNow t_saved t_isKept t_keptWill t_keptChanges t_keptHeard t_keptWorth t_keptThing t_keptChangesOf t_keptHeir t_keptOne t_keptTwo t_keptMore t_h) (some (.int rr)) := by
  refine Ct.of (cc := cX7_deal) (maxL := 1) (ret := (some .int)) (by decide) rfl (Nat.le_of_ble_eq_true rfl) rfl ?_
  intro p e s m below meth c A ls F hP hD hS hl
  have hl : lv_has ls 1 [(0, .ref (ad_t 0))] := hl
  obtain ⟨hx, hb, hml, hown, hts, hrt, hlocks, hK, hA, hZ⟩ := id F
  obtain ⟨H, hH⟩ : ∃ H, H = s.heap := ⟨_, rfl⟩
  obtain ⟨locs, hLo⟩ : ∃ q : List Loc, q = [] := ⟨_, rfl⟩
  refine (?_ : W p l e rm_X7_deal s m _ below meth c s.heap [] 0 0 _ _)
  rw [← hH, ← hLo]
  rw [← hH] at hP
  have hS : va_S A s.heap H locs := by rw [hH, hLo]; exact hS
  refine lv_aload_n hx hb dX7_deal_0 rfl (lv_at hl 0 rfl) ?_
  refine gf F hP in_X7_deal_X7 0 rfl rfl 1 (by decide) 1 rfl rfl dX7_deal_1 ?_
  refine lv_if_ne (tgt := 12) hx hb dX7_deal_4 (by decide) (fun c1 => ?_) (fun c1 => ?_)
  · replace hf := (if_neg c1).symm.trans hf
    refine lv_aload_n hx hb dX7_deal_12 rfl (lv_at hl 0 rfl) ?_
    obtain ⟨⟨v2, g3, g4, g5⟩, e6, hf⟩ := bnd hf
    refine cV F hP hD hS (k_X7_dealNow l ad_t t_wills t_heirs t_kindOf t_worthOf t_thingOf t_changesOf t_changes t_heard t_heardHeir t_heardOne t_heardTwo t_heardMore t_pageLength t_page t_says t_dealt t_farOf t_endMany t_endMost t_endLeast t_endFew t_seedNow t_saved t_isKept t_keptWill t_keptChanges t_keptHeard t_keptWorth t_keptThing t_keptChangesOf t_keptHeir t_keptOne t_keptTwo t_keptMore t_h  e6) gX7_deal_X7_dealNow rfl ⟨rfl, rfl⟩ nd_X7_dealNow ⟨Nat.le_of_ble_eq_true rfl, Nat.le_of_ble_eq_true rfl⟩ 0 7 rfl rfl rfl hl.1 rfl (Nat.le_of_ble_eq_true rfl) dX7_deal_13 (pm0 (w_X7 cI cB ad_t t_wills t_heirs t_kindOf t_worthOf t_thingOf t_changesOf t_changes t_heard t_heardHeir t_heardOne t_heardTwo t_heardMore t_pageLength t_page t_says t_dealt t_farOf t_endMany t_endMost t_endLeast t_endFew t_seedNow t_saved t_isKept t_keptWill t_keptChanges t_keptHeard t_keptWorth t_keptThing t_keptChangesOf t_keptHeir t_keptOne t_keptTwo t_keptMore t_h)) (pm0 (w_X7 cI cB ad_t t_wills t_heirs t_kindOf t_worthOf g3 t_changesOf t_changes t_heard t_heardHeir t_heardOne t_heardTwo t_heardMore t_pageLength t_page g4 g5 t_farOf t_endMany t_endMost t_endLeast t_endFew t_seedNow t_saved t_isKept t_keptWill t_keptChanges t_keptHeard t_keptWorth t_keptThing t_keptChangesOf t_keptHeir t_keptOne t_keptTwo t_keptMore t_h)) (fun H locs hP hD hS => ?_)
    replace hf : (some (v2, g3, g4, g5) : Option (Int32 × (Nat → Int32) × (Nat → Int32) × (Nat → Int32))) = some (rr, g_t_thingOf, g_t_says, g_t_dealt) := hf
    cases hf
    exact ret_i F hP hS dX7_deal_16
  · replace hf := (if_pos c1).symm.trans hf
    refine lv_bipush (v := (-103)) hx hb dX7_deal_7 (by decide) ?_
    refine lv_goto (tgt := 16) hx hb dX7_deal_9 (by decide) ?_
    replace hf : (some ((-103), t_thingOf, t_says, t_dealt) : Option (Int32 × (Nat → Int32) × (Nat → Int32) × (Nat → Int32))) = some (rr, g_t_thingOf, g_t_says, g_t_dealt) := hf
    cases hf
    exact ret_i F hP hS dX7_deal_16

