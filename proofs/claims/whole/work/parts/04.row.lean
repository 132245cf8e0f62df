/-! X3_get -/
def rm_X3_get : Room := { frames := 0, cells := 0, slots := 0, locals := 0 }
theorem in_X3_get_X3 : ∀ w ∈ u_ws RX3 TX3 1, w ∈ wsX3_get := fun _ h => List.mem_cons_of_mem _ (List.mem_append_right _ (h))
theorem nd_X3_get : yX3_get.cls = RX3 ∧ yX3_get.cls ≠ "java/lang/invoke/MethodHandle" ∧ yX3_get.cls ≠ "java/lang/invoke/VarHandle" ∧ (parseMethodDescriptor yX3_get.desc).map (fun d => d.parameters.length) = some 1 := by decide +kernel
def f_X3_get (t_n : Nat) (t_cells : Nat → Int32) (x1 : Int32) : Option (Int32) := (if x1 < 0 then some 0 else (if (Int32.ofNat t_n) ≤ x1 then some 0 else (rd t_cells t_n x1).bind (fun v3 => some v3)))
set_option maxHeartbeats 4000000 in
set_option maxRecDepth 100000 in
theorem k_X3_get (l : Launch) {D : va_G} {cI cB : ClassId} {kK kV : Nat → Nat} (ad_t : Nat → Nat) (t_n : Nat) (t_cells : Nat → Int32) (x1 : Int32) {rr : Int32}  (hf : f_X3_get t_n t_cells x1 = some rr) : Ct l yX3_get wsX3_get rm_X3_get D cI cB kK kV [.ref (ad_t 0), .int x1] (w_X3 cI cB ad_t t_n t_cells) (w_X3 cI cB ad_t t_n t_cells) (some (.int rr)) := by
  refine Ct.of (cc := cX3_get) (maxL := 2) (ret := (some .int)) (by decide) rfl (Nat.le_of_ble_eq_true rfl) rfl ?_
  intro p e s m below meth c A ls F hP hD hS hl
  have hl : lv_has ls 2 [(0, .ref (ad_t 0)), (1, .int x1)] := hl
  obtain ⟨hx, hb, hml, hown, hts, hrt, hlocks, hK, hA, hZ⟩ := id F
  obtain ⟨H, hH⟩ : ∃ H, H = s.heap := ⟨_, rfl⟩
  obtain ⟨locs, hLo⟩ : ∃ q : List Loc, q = [] := ⟨_, rfl⟩
  refine (?_ : W p l e rm_X3_get s m _ below meth c s.heap [] 0 0 _ _)
  rw [← hH, ← hLo]
  rw [← hH] at hP
  have hS : va_S A s.heap H locs := by rw [hH, hLo]; exact hS
  refine lv_iload_n hx hb dX3_get_0 rfl (lv_at hl 1 rfl) ?_
  refine lv_if_lt (tgt := 22) hx hb dX3_get_1 (by decide) (fun c1 => ?_) (fun c1 => ?_)
  · replace hf := (if_pos c1).symm.trans hf
    refine lv_iconst (v := 0) hx hb dX3_get_22 (by decide) ?_
    replace hf : (some 0 : Option (Int32)) = some rr := hf
    cases hf
    exact ret_i F hP hS dX3_get_23
  · replace hf := (if_neg c1).symm.trans hf
    refine lv_iload_n hx hb dX3_get_4 rfl (lv_at hl 1 rfl) ?_
    refine lv_aload_n hx hb dX3_get_5 rfl (lv_at hl 0 rfl) ?_
    refine gf F hP in_X3_get_X3 0 rfl rfl 0 (by decide) 1 rfl rfl dX3_get_6 ?_
    refine aln F hP 1 rfl dX3_get_9 ?_
    refine lv_icmp_ge (tgt := 22) hx hb dX3_get_10 (by decide) (fun c2 => ?_) (fun c2 => ?_)
    · replace hf := (if_pos c2).symm.trans hf
      refine lv_iconst (v := 0) hx hb dX3_get_22 (by decide) ?_
      replace hf : (some 0 : Option (Int32)) = some rr := hf
      cases hf
      exact ret_i F hP hS dX3_get_23
    · replace hf := (if_neg c2).symm.trans hf
      refine lv_aload_n hx hb dX3_get_13 rfl (lv_at hl 0 rfl) ?_
      refine gf F hP in_X3_get_X3 0 rfl rfl 0 (by decide) 1 rfl rfl dX3_get_14 ?_
      refine lv_iload_n hx hb dX3_get_17 rfl (lv_at hl 1 rfl) ?_
      obtain ⟨v3, ev3, hf⟩ := bnd hf
      refine ald F hP 1 rfl ev3 dX3_get_18 ?_
      refine lv_goto (tgt := 23) hx hb dX3_get_19 (by decide) ?_
      replace hf : (some v3 : Option (Int32)) = some rr := hf
      cases hf
      exact ret_i F hP hS dX3_get_23

/-! X3_set -/
def rm_X3_set : Room := { frames := 0, cells := 0, slots := 0, locals := 0 }
theorem in_X3_set_X3 : ∀ w ∈ u_ws RX3 TX3 1, w ∈ wsX3_set := fun _ h => List.mem_cons_of_mem _ (List.mem_append_right _ (h))
theorem nd_X3_set : yX3_set.cls = RX3 ∧ yX3_set.cls ≠ "java/lang/invoke/MethodHandle" ∧ yX3_set.cls ≠ "java/lang/invoke/VarHandle" ∧ (parseMethodDescriptor yX3_set.desc).map (fun d => d.parameters.length) = some 2 := by decide +kernel
def f_X3_set (t_n : Nat) (t_cells : Nat → Int32) (x1 : Int32) (x2 : Int32) : Option ((Nat → Int32)) := (if x1 < 0 then some t_cells else (if (Int32.ofNat t_n) ≤ x1 then some t_cells else (wr t_cells t_n x1 x2).bind (fun g3 => some g3)))
set_option maxHeartbeats 4000000 in
set_option maxRecDepth 100000 in
theorem k_X3_set (l : Launch) {D : va_G} {cI cB : ClassId} {kK kV : Nat → Nat} (ad_t : Nat → Nat) (t_n : Nat) (t_cells : Nat → Int32) (x1 : Int32) (x2 : Int32)  {g_t_cells : Nat → Int32} (hf : f_X3_set t_n t_cells x1 x2 = some g_t_cells) : Ct l yX3_set wsX3_set rm_X3_set D cI cB kK kV [.ref (ad_t 0), .int x1, .int x2] (w_X3 cI cB ad_t t_n t_cells) (w_X3 cI cB ad_t t_n g_t_cells) none := by
  refine Ct.of (cc := cX3_set) (maxL := 3) (ret := none) (by decide) rfl (Nat.le_of_ble_eq_true rfl) rfl ?_
  intro p e s m below meth c A ls F hP hD hS hl
  have hl : lv_has ls 3 [(0, .ref (ad_t 0)), (1, .int x1), (2, .int x2)] := hl
  obtain ⟨hx, hb, hml, hown, hts, hrt, hlocks, hK, hA, hZ⟩ := id F
  obtain ⟨H, hH⟩ : ∃ H, H = s.heap := ⟨_, rfl⟩
  obtain ⟨locs, hLo⟩ : ∃ q : List Loc, q = [] := ⟨_, rfl⟩
  refine (?_ : W p l e rm_X3_set s m _ below meth c s.heap [] 0 0 _ _)
  rw [← hH, ← hLo]
  rw [← hH] at hP
  have hS : va_S A s.heap H locs := by rw [hH, hLo]; exact hS
  refine lv_iload_n hx hb dX3_set_0 rfl (lv_at hl 1 rfl) ?_
  refine lv_if_lt (tgt := 20) hx hb dX3_set_1 (by decide) (fun c1 => ?_) (fun c1 => ?_)
  · replace hf := (if_pos c1).symm.trans hf
    replace hf : (some t_cells : Option ((Nat → Int32))) = some g_t_cells := hf
    cases hf
    exact ret_v F hP hS dX3_set_20
  · replace hf := (if_neg c1).symm.trans hf
    refine lv_iload_n hx hb dX3_set_4 rfl (lv_at hl 1 rfl) ?_
    refine lv_aload_n hx hb dX3_set_5 rfl (lv_at hl 0 rfl) ?_
    refine gf F hP in_X3_set_X3 0 rfl rfl 0 (by decide) 1 rfl rfl dX3_set_6 ?_
    refine aln F hP 1 rfl dX3_set_9 ?_
    refine lv_icmp_ge (tgt := 20) hx hb dX3_set_10 (by decide) (fun c2 => ?_) (fun c2 => ?_)
    · replace hf := (if_pos c2).symm.trans hf
      replace hf : (some t_cells : Option ((Nat → Int32))) = some g_t_cells := hf
      cases hf
      exact ret_v F hP hS dX3_set_20
    · replace hf := (if_neg c2).symm.trans hf
      refine lv_aload_n hx hb dX3_set_13 rfl (lv_at hl 0 rfl) ?_
      refine gf F hP in_X3_set_X3 0 rfl rfl 0 (by decide) 1 rfl rfl dX3_set_14 ?_
      refine lv_iload_n hx hb dX3_set_17 rfl (lv_at hl 1 rfl) ?_
      refine lv_iload_n hx hb dX3_set_18 rfl (lv_at hl 2 rfl) ?_
      obtain ⟨g3, eg3, hf⟩ := bnd hf
      refine ast F hP hD hS 1 rfl eg3 dX3_set_19 (w_X3 cI cB ad_t t_n g3) rfl (fun H locs hP hD hS => ?_)
      replace hf : (some g3 : Option ((Nat → Int32))) = some g_t_cells := hf
      cases hf
      exact ret_v F hP hS dX3_set_20

/-! X3_takeFrom -/
def rm_X3_takeFrom : Room := { frames := 0, cells := 0, slots := 0, locals := 0 }
theorem in_X3_takeFrom_X3 : ∀ w ∈ u_ws RX3 TX3 1, w ∈ wsX3_takeFrom := fun _ h => List.mem_cons_of_mem _ (List.mem_append_right _ (h))
theorem nd_X3_takeFrom : yX3_takeFrom.cls = RX3 ∧ yX3_takeFrom.cls ≠ "java/lang/invoke/MethodHandle" ∧ yX3_takeFrom.cls ≠ "java/lang/invoke/VarHandle" ∧ (parseMethodDescriptor yX3_takeFrom.desc).map (fun d => d.parameters.length) = some 1 := by decide +kernel
def f_X3_takeFrom_2 (t_n : Nat) (o_n : Nat) (o_cells : Nat → Int32)  : Nat → Int32 → (Nat → Int32) → Option ((Nat → Int32))
  | 0, _, _ => none
  | n + 1, x2, t_cells => (if (Int32.ofNat t_n) ≤ x2 then some t_cells else (if (Int32.ofNat o_n) ≤ x2 then some t_cells else (rd o_cells o_n x2).bind (fun v3 => (wr t_cells t_n x2 v3).bind (fun g4 => f_X3_takeFrom_2 t_n o_n o_cells  n (x2 + 1) g4))))
def f_X3_takeFrom (t_n : Nat) (t_cells : Nat → Int32) (o_n : Nat) (o_cells : Nat → Int32)  : Option ((Nat → Int32)) := f_X3_takeFrom_2 t_n o_n o_cells 300 0 t_cells
set_option maxHeartbeats 4000000 in
set_option maxRecDepth 100000 in
theorem b_X3_takeFrom_2 {p : Program} {l : Launch} {e : Env} {s : State} {m : MethodId} {args : Array Value} {below : List Frame} {meth : Method} {c : Code} {D : va_G} {cI cB : ClassId} {kK kV : Nat → Nat} {A : Nat → Prop} (F : Fx p m c s meth args cX3_takeFrom 3 RX3 wsX3_takeFrom none D cI cB kK kV A) {ad_t : Nat → Nat} {ad_o : Nat → Nat} {t_n : Nat} {o_n : Nat} {o_cells : Nat → Int32}  {g_t_cells : Nat → Int32} : ∀ (n : Nat), ∀ (x2 : Int32) (t_cells : Nat → Int32) (H : Heap) (locs : List Loc) (ls : Array Slot), va_P D vwCl (w_X3 cI cB ad_t t_n t_cells ++ w_X3 cI cB ad_o o_n o_cells) H → va_D A (w_X3 cI cB ad_t t_n t_cells ++ w_X3 cI cB ad_o o_n o_cells) → va_S A s.heap H locs → lv_has ls 3 [(0, .ref (ad_t 0)), (1, .ref (ad_o 0)), (2, .int x2)] → f_X3_takeFrom_2 t_n o_n o_cells  n x2 t_cells = some g_t_cells → W p l e rm_X3_takeFrom s m args below meth c H locs 0 0 (Zq D below args s A (w_X3 cI cB ad_t t_n g_t_cells ++ w_X3 cI cB ad_o o_n o_cells) none) (F0 m 2 ls []) := by
  obtain ⟨hx, hb, hml, hown, hts, hrt, hlocks, hK, hA, hZ⟩ := id F
  intro n
  induction n with
  | zero =>
    intro x2 t_cells H locs ls hP hD hS hl hf
    cases hf
  | succ n ih =>
    intro x2 t_cells H locs ls hP hD hS hl hf
    refine lv_aload_n hx hb dX3_takeFrom_2 rfl (lv_at hl 1 rfl) ?_
    refine lv_ifnull hx hb dX3_takeFrom_3 ?_
    refine lv_iload_n hx hb dX3_takeFrom_6 rfl (lv_at hl 2 rfl) ?_
    refine lv_aload_n hx hb dX3_takeFrom_7 rfl (lv_at hl 0 rfl) ?_
    refine gf F hP in_X3_takeFrom_X3 0 rfl rfl 0 (by decide) 1 rfl rfl dX3_takeFrom_8 ?_
    refine aln F hP 1 rfl dX3_takeFrom_11 ?_
    refine lv_icmp_ge (tgt := 42) hx hb dX3_takeFrom_12 (by decide) (fun c1 => ?_) (fun c1 => ?_)
    · replace hf := (if_pos c1).symm.trans hf
      replace hf : (some t_cells : Option ((Nat → Int32))) = some g_t_cells := hf
      cases hf
      exact ret_v F hP hS dX3_takeFrom_42
    · replace hf := (if_neg c1).symm.trans hf
      refine lv_iload_n hx hb dX3_takeFrom_15 rfl (lv_at hl 2 rfl) ?_
      refine lv_aload_n hx hb dX3_takeFrom_16 rfl (lv_at hl 1 rfl) ?_
      refine gf F hP in_X3_takeFrom_X3 2 rfl rfl 0 (by decide) 1 rfl rfl dX3_takeFrom_17 ?_
      refine aln F hP 3 rfl dX3_takeFrom_20 ?_
      refine lv_icmp_ge (tgt := 42) hx hb dX3_takeFrom_21 (by decide) (fun c2 => ?_) (fun c2 => ?_)
      · replace hf := (if_pos c2).symm.trans hf
        replace hf : (some t_cells : Option ((Nat → Int32))) = some g_t_cells := hf
        cases hf
        exact ret_v F hP hS dX3_takeFrom_42
      · replace hf := (if_neg c2).symm.trans hf
        refine lv_aload_n hx hb dX3_takeFrom_24 rfl (lv_at hl 0 rfl) ?_
        refine gf F hP in_X3_takeFrom_X3 0 rfl rfl 0 (by decide) 1 rfl rfl dX3_takeFrom_25 ?_
        refine lv_iload_n hx hb dX3_takeFrom_28 rfl (lv_at hl 2 rfl) ?_
        refine lv_aload_n hx hb dX3_takeFrom_29 rfl (lv_at hl 1 rfl) ?_
        refine gf F hP in_X3_takeFrom_X3 2 rfl rfl 0 (by decide) 1 rfl rfl dX3_takeFrom_30 ?_
        refine lv_iload_n hx hb dX3_takeFrom_33 rfl (lv_at hl 2 rfl) ?_
        obtain ⟨v3, ev3, hf⟩ := bnd hf
        refine ald F hP 3 rfl ev3 dX3_takeFrom_34 ?_
        obtain ⟨g4, eg4, hf⟩ := bnd hf
        refine ast F hP hD hS 1 rfl eg4 dX3_takeFrom_35 (w_X3 cI cB ad_t t_n g4 ++ w_X3 cI cB ad_o o_n o_cells) rfl (fun H locs hP hD hS => ?_)
        refine lv_iinc (v := (x2 + 1)) (lv' := [(2, .int (x2 + 1)), (0, .ref (ad_t 0)), (1, .ref (ad_o 0))]) hx hb dX3_takeFrom_36 hl (k := 2) rfl rfl (by decide) rfl (fun ls hl => ?_)
        refine lv_goto (tgt := 2) hx hb dX3_takeFrom_39 (by decide) ?_
        exact ih (x2 + 1) g4 H locs ls hP hD hS (lv_sub hl [1, 2, 0] rfl) hf

set_option maxHeartbeats 4000000 in
set_option maxRecDepth 100000 in
theorem k_X3_takeFrom (l : Launch) {D : va_G} {cI cB : ClassId} {kK kV : Nat → Nat} (ad_t : Nat → Nat) (ad_o : Nat → Nat) (t_n : Nat) (t_cells : Nat → Int32) (o_n : Nat) (o_cells : Nat → Int32)   {g_t_cells : Nat → Int32} (hf : f_X3_takeFrom t_n t_cells o_n o_cells = some g_t_cells) : Ct l yX3_takeFrom wsX3_takeFrom rm_X3_takeFrom D cI cB kK kV [.ref (ad_t 0), .ref (ad_o 0)] (w_X3 cI cB ad_t t_n t_cells ++ w_X3 cI cB ad_o o_n o_cells) (w_X3 cI cB ad_t t_n g_t_cells ++ w_X3 cI cB ad_o o_n o_cells) none := by
  refine Ct.of (cc := cX3_takeFrom) (maxL := 3) (ret := none) (by decide) rfl (Nat.le_of_ble_eq_true rfl) rfl ?_
  intro p e s m below meth c A ls F hP hD hS hl
  have hl : lv_has ls 3 [(0, .ref (ad_t 0)), (1, .ref (ad_o 0))] := hl
  obtain ⟨hx, hb, hml, hown, hts, hrt, hlocks, hK, hA, hZ⟩ := id F
  obtain ⟨H, hH⟩ : ∃ H, H = s.heap := ⟨_, rfl⟩
  obtain ⟨locs, hLo⟩ : ∃ q : List Loc, q = [] := ⟨_, rfl⟩
  refine (?_ : W p l e rm_X3_takeFrom s m _ below meth c s.heap [] 0 0 _ _)
  rw [← hH, ← hLo]
  rw [← hH] at hP
  have hS : va_S A s.heap H locs := by rw [hH, hLo]; exact hS
  refine lv_iconst (v := 0) hx hb dX3_takeFrom_0 (by decide) ?_
  refine lv_istore_n (lv' := [(2, .int 0), (0, .ref (ad_t 0)), (1, .ref (ad_o 0))]) hx hb dX3_takeFrom_1 rfl hl (by decide) rfl (fun ls hl => ?_)
  exact b_X3_takeFrom_2 F 300 0 t_cells H locs ls hP hD hS (lv_sub hl [1, 2, 0] rfl) hf

/-! X5_at -/
def rm_X5_at : Room := { frames := 0, cells := 0, slots := 0, locals := 0 }
theorem in_X5_at_X5 : ∀ w ∈ u_ws RX5 TX5 1, w ∈ wsX5_at := fun _ h => List.mem_cons_of_mem _ (List.mem_append_right _ (h))
theorem nd_X5_at : yX5_at.cls = RX5 ∧ yX5_at.cls ≠ "java/lang/invoke/MethodHandle" ∧ yX5_at.cls ≠ "java/lang/invoke/VarHandle" ∧ (parseMethodDescriptor yX5_at.desc).map (fun d => d.parameters.length) = some 2 := by decide +kernel
def f_X5_at (t_cells : Nat → Int32) (x1 : Int32) (x2 : Int32) : Option (Int32) := (if ((x1 * 4) + x2) < 0 then some 0 else (if (Int32.ofNat 16) ≤ ((x1 * 4) + x2) then some 0 else (rd t_cells 16 ((x1 * 4) + x2)).bind (fun v3 => some v3)))
set_option maxHeartbeats 4000000 in
set_option maxRecDepth 100000 in
theorem k_X5_at (l : Launch) {D : va_G} {cI cB : ClassId} {kK kV : Nat → Nat} (ad_t : Nat → Nat) (t_cells : Nat → Int32) (x1 : Int32) (x2 : Int32) {rr : Int32}  (hf : f_X5_at t_cells x1 x2 = some rr) : Ct l yX5_at wsX5_at rm_X5_at D cI cB kK kV [.ref (ad_t 0), .int x1, .int x2] (w_X5 cI cB ad_t t_cells) (w_X5 cI cB ad_t t_cells) (some (.int rr)) := by
  refine Ct.of (cc := cX5_at) (maxL := 4) (ret := (some .int)) (by decide) rfl (Nat.le_of_ble_eq_true rfl) rfl ?_
  intro p e s m below meth c A ls F hP hD hS hl
  have hl : lv_has ls 4 [(0, .ref (ad_t 0)), (1, .int x1), (2, .int x2)] := hl
  obtain ⟨hx, hb, hml, hown, hts, hrt, hlocks, hK, hA, hZ⟩ := id F
  obtain ⟨H, hH⟩ : ∃ H, H = s.heap := ⟨_, rfl⟩
  obtain ⟨locs, hLo⟩ : ∃ q : List Loc, q = [] := ⟨_, rfl⟩
  refine (?_ : W p l e rm_X5_at s m _ below meth c s.heap [] 0 0 _ _)
  rw [← hH, ← hLo]
  rw [← hH] at hP
  have hS : va_S A s.heap H locs := by rw [hH, hLo]; exact hS
  refine lv_iload_n hx hb dX5_at_0 rfl (lv_at hl 1 rfl) ?_
  refine lv_iconst (v := 4) hx hb dX5_at_1 (by decide) ?_
  refine lv_imul hx hb dX5_at_2 ?_
  refine lv_iload_n hx hb dX5_at_3 rfl (lv_at hl 2 rfl) ?_
  refine lv_iadd hx hb dX5_at_4 ?_
  refine lv_istore_n (lv' := [(3, .int ((x1 * 4) + x2)), (0, .ref (ad_t 0)), (1, .int x1), (2, .int x2)]) hx hb dX5_at_5 rfl hl (by decide) rfl (fun ls hl => ?_)
  refine lv_iload_n hx hb dX5_at_6 rfl (lv_at hl 0 rfl) ?_
  refine lv_if_lt (tgt := 28) hx hb dX5_at_7 (by decide) (fun c1 => ?_) (fun c1 => ?_)
  · replace hf := (if_pos c1).symm.trans hf
    refine lv_iconst (v := 0) hx hb dX5_at_28 (by decide) ?_
    replace hf : (some 0 : Option (Int32)) = some rr := hf
    cases hf
    exact ret_i F hP hS dX5_at_29
  · replace hf := (if_neg c1).symm.trans hf
    refine lv_iload_n hx hb dX5_at_10 rfl (lv_at hl 0 rfl) ?_
    refine lv_aload_n hx hb dX5_at_11 rfl (lv_at hl 1 rfl) ?_
    refine gf F hP in_X5_at_X5 0 rfl rfl 0 (by decide) 1 rfl rfl dX5_at_12 ?_
    refine aln F hP 1 rfl dX5_at_15 ?_
    refine lv_icmp_ge (tgt := 28) hx hb dX5_at_16 (by decide) (fun c2 => ?_) (fun c2 => ?_)
    · replace hf := (if_pos c2).symm.trans hf
      refine lv_iconst (v := 0) hx hb dX5_at_28 (by decide) ?_
      replace hf : (some 0 : Option (Int32)) = some rr := hf
      cases hf
      exact ret_i F hP hS dX5_at_29
    · replace hf := (if_neg c2).symm.trans hf
      refine lv_aload_n hx hb dX5_at_19 rfl (lv_at hl 1 rfl) ?_
      refine gf F hP in_X5_at_X5 0 rfl rfl 0 (by decide) 1 rfl rfl dX5_at_20 ?_
      refine lv_iload_n hx hb dX5_at_23 rfl (lv_at hl 0 rfl) ?_
      obtain ⟨v3, ev3, hf⟩ := bnd hf
      refine ald F hP 1 rfl ev3 dX5_at_24 ?_
      refine lv_goto (tgt := 29) hx hb dX5_at_25 (by decide) ?_
      replace hf : (some v3 : Option (Int32)) = some rr := hf
      cases hf
      exact ret_i F hP hS dX5_at_29

/-! X5_put -/
def rm_X5_put : Room := { frames := 0, cells := 0, slots := 0, locals := 0 }
theorem in_X5_put_X5 : ∀ w ∈ u_ws RX5 TX5 1, w ∈ wsX5_put := fun _ h => List.mem_cons_of_mem _ (List.mem_append_right _ (h))
theorem nd_X5_put : yX5_put.cls = RX5 ∧ yX5_put.cls ≠ "java/lang/invoke/MethodHandle" ∧ yX5_put.cls ≠ "java/lang/invoke/VarHandle" ∧ (parseMethodDescriptor yX5_put.desc).map (fun d => d.parameters.length) = some 3 := by decide +kernel
def f_X5_put (t_cells : Nat → Int32) (x1 : Int32) (x2 : Int32) (x3 : Int32) : Option ((Nat → Int32)) := (if ((x1 * 4) + x2) < 0 then some t_cells else (if (Int32.ofNat 16) ≤ ((x1 * 4) + x2) then some t_cells else (wr t_cells 16 ((x1 * 4) + x2) x3).bind (fun g3 => some g3)))
set_option maxHeartbeats 4000000 in
set_option maxRecDepth 100000 in
theorem k_X5_put (l : Launch) {D : va_G} {cI cB : ClassId} {kK kV : Nat → Nat} (ad_t : Nat → Nat) (t_cells : Nat → Int32) (x1 : Int32) (x2 : Int32) (x3 : Int32)  {g_t_cells : Nat → Int32} (hf : f_X5_put t_cells x1 x2 x3 = some g_t_cells) : Ct l yX5_put wsX5_put rm_X5_put D cI cB kK kV [.ref (ad_t 0), .int x1, .int x2, .int x3] (w_X5 cI cB ad_t t_cells) (w_X5 cI cB ad_t g_t_cells) none := by
  refine Ct.of (cc := cX5_put) (maxL := 5) (ret := none) (by decide) rfl (Nat.le_of_ble_eq_true rfl) rfl ?_
  intro p e s m below meth c A ls F hP hD hS hl
  have hl : lv_has ls 5 [(0, .ref (ad_t 0)), (1, .int x1), (2, .int x2), (3, .int x3)] := hl
  obtain ⟨hx, hb, hml, hown, hts, hrt, hlocks, hK, hA, hZ⟩ := id F
  obtain ⟨H, hH⟩ : ∃ H, H = s.heap := ⟨_, rfl⟩
  obtain ⟨locs, hLo⟩ : ∃ q : List Loc, q = [] := ⟨_, rfl⟩
  refine (?_ : W p l e rm_X5_put s m _ below meth c s.heap [] 0 0 _ _)
  rw [← hH, ← hLo]
  rw [← hH] at hP
  have hS : va_S A s.heap H locs := by rw [hH, hLo]; exact hS
  refine lv_iload_n hx hb dX5_put_0 rfl (lv_at hl 1 rfl) ?_
  refine lv_iconst (v := 4) hx hb dX5_put_1 (by decide) ?_
  refine lv_imul hx hb dX5_put_2 ?_
  refine lv_iload_n hx hb dX5_put_3 rfl (lv_at hl 2 rfl) ?_
  refine lv_iadd hx hb dX5_put_4 ?_
  refine lv_istore (lv' := [(4, .int ((x1 * 4) + x2)), (0, .ref (ad_t 0)), (1, .int x1), (2, .int x2), (3, .int x3)]) hx hb dX5_put_5 hl (by decide) rfl (fun ls hl => ?_)
  refine lv_iload hx hb dX5_put_7 (lv_at hl 0 rfl) ?_
  refine lv_if_lt (tgt := 30) hx hb dX5_put_9 (by decide) (fun c1 => ?_) (fun c1 => ?_)
  · replace hf := (if_pos c1).symm.trans hf
    replace hf : (some t_cells : Option ((Nat → Int32))) = some g_t_cells := hf
    cases hf
    exact ret_v F hP hS dX5_put_30
  · replace hf := (if_neg c1).symm.trans hf
    refine lv_iload hx hb dX5_put_12 (lv_at hl 0 rfl) ?_
    refine lv_aload_n hx hb dX5_put_14 rfl (lv_at hl 1 rfl) ?_
    refine gf F hP in_X5_put_X5 0 rfl rfl 0 (by decide) 1 rfl rfl dX5_put_15 ?_
    refine aln F hP 1 rfl dX5_put_18 ?_
    refine lv_icmp_ge (tgt := 30) hx hb dX5_put_19 (by decide) (fun c2 => ?_) (fun c2 => ?_)
    · replace hf := (if_pos c2).symm.trans hf
      replace hf : (some t_cells : Option ((Nat → Int32))) = some g_t_cells := hf
      cases hf
      exact ret_v F hP hS dX5_put_30
    · replace hf := (if_neg c2).symm.trans hf
      refine lv_aload_n hx hb dX5_put_22 rfl (lv_at hl 1 rfl) ?_
      refine gf F hP in_X5_put_X5 0 rfl rfl 0 (by decide) 1 rfl rfl dX5_put_23 ?_
      refine lv_iload hx hb dX5_put_26 (lv_at hl 0 rfl) ?_
      refine lv_iload_n hx hb dX5_put_28 rfl (lv_at hl 4 rfl) ?_
      obtain ⟨g3, eg3, hf⟩ := bnd hf
      refine ast F hP hD hS 1 rfl eg3 dX5_put_29 (w_X5 cI cB ad_t g3) rfl (fun H locs hP hD hS => ?_)
      replace hf : (some g3 : Option ((Nat → Int32))) = some g_t_cells := hf
      cases hf
      exact ret_v F hP hS dX5_put_30

/-! X5_takeFrom -/
def rm_X5_takeFrom : Room := { frames := 0, cells := 0, slots := 0, locals := 0 }
theorem in_X5_takeFrom_X5 : ∀ w ∈ u_ws RX5 TX5 1, w ∈ wsX5_takeFrom := fun _ h => List.mem_cons_of_mem _ (List.mem_append_right _ (h))
theorem nd_X5_takeFrom : yX5_takeFrom.cls = RX5 ∧ yX5_takeFrom.cls ≠ "java/lang/invoke/MethodHandle" ∧ yX5_takeFrom.cls ≠ "java/lang/invoke/VarHandle" ∧ (parseMethodDescriptor yX5_takeFrom.desc).map (fun d => d.parameters.length) = some 1 := by decide +kernel
def f_X5_takeFrom_2 (o_cells : Nat → Int32)  : Nat → Int32 → (Nat → Int32) → Option ((Nat → Int32))
  | 0, _, _ => none
  | n + 1, x2, t_cells => (if (Int32.ofNat 16) ≤ x2 then some t_cells else (if (Int32.ofNat 16) ≤ x2 then some t_cells else (rd o_cells 16 x2).bind (fun v3 => (wr t_cells 16 x2 v3).bind (fun g4 => f_X5_takeFrom_2 o_cells  n (x2 + 1) g4))))
def f_X5_takeFrom (t_cells : Nat → Int32) (o_cells : Nat → Int32)  : Option ((Nat → Int32)) := f_X5_takeFrom_2 o_cells 300 0 t_cells
set_option maxHeartbeats 4000000 in
set_option maxRecDepth 100000 in
theorem b_X5_takeFrom_2 {p : Program} {l : Launch} {e : Env} {s : State} {m : MethodId} {args : Array Value} {below : List Frame} {meth : Method} {c : Code} {D : va_G} {cI cB : ClassId} {kK kV : Nat → Nat} {A : Nat → Prop} (F : Fx p m c s meth args cX5_takeFrom 3 RX5 wsX5_takeFrom none D cI cB kK kV A) {ad_t : Nat → Nat} {ad_o : Nat → Nat} {o_cells : Nat → Int32}  {g_t_cells : Nat → Int32} : ∀ (n : Nat), ∀ (x2 : Int32) (t_cells : Nat → Int32) (H : Heap) (locs : List Loc) (ls : Array Slot), va_P D vwCl (w_X5 cI cB ad_t t_cells ++ w_X5 cI cB ad_o o_cells) H → va_D A (w_X5 cI cB ad_t t_cells ++ w_X5 cI cB ad_o o_cells) → va_S A s.heap H locs → lv_has ls 3 [(0, .ref (ad_t 0)), (1, .ref (ad_o 0)), (2, .int x2)] → f_X5_takeFrom_2 o_cells  n x2 t_cells = some g_t_cells → W p l e rm_X5_takeFrom s m args below meth c H locs 0 0 (Zq D below args s A (w_X5 cI cB ad_t g_t_cells ++ w_X5 cI cB ad_o o_cells) none) (F0 m 2 ls []) := by
  obtain ⟨hx, hb, hml, hown, hts, hrt, hlocks, hK, hA, hZ⟩ := id F
  intro n
  induction n with
  | zero =>
    intro x2 t_cells H locs ls hP hD hS hl hf
    cases hf
  | succ n ih =>
    intro x2 t_cells H locs ls hP hD hS hl hf
    refine lv_aload_n hx hb dX5_takeFrom_2 rfl (lv_at hl 1 rfl) ?_
    refine lv_ifnull hx hb dX5_takeFrom_3 ?_
    refine lv_iload_n hx hb dX5_takeFrom_6 rfl (lv_at hl 2 rfl) ?_
    refine lv_aload_n hx hb dX5_takeFrom_7 rfl (lv_at hl 0 rfl) ?_
    refine gf F hP in_X5_takeFrom_X5 0 rfl rfl 0 (by decide) 1 rfl rfl dX5_takeFrom_8 ?_
    refine aln F hP 1 rfl dX5_takeFrom_11 ?_
    refine lv_icmp_ge (tgt := 42) hx hb dX5_takeFrom_12 (by decide) (fun c1 => ?_) (fun c1 => ?_)
    · replace hf := (if_pos c1).symm.trans hf
      replace hf : (some t_cells : Option ((Nat → Int32))) = some g_t_cells := hf
      cases hf
      exact ret_v F hP hS dX5_takeFrom_42
    · replace hf := (if_neg c1).symm.trans hf
      refine lv_iload_n hx hb dX5_takeFrom_15 rfl (lv_at hl 2 rfl) ?_
      refine lv_aload_n hx hb dX5_takeFrom_16 rfl (lv_at hl 1 rfl) ?_
      refine gf F hP in_X5_takeFrom_X5 2 rfl rfl 0 (by decide) 1 rfl rfl dX5_takeFrom_17 ?_
      refine aln F hP 3 rfl dX5_takeFrom_20 ?_
      refine lv_icmp_ge (tgt := 42) hx hb dX5_takeFrom_21 (by decide) (fun c2 => ?_) (fun c2 => ?_)
      · replace hf := (if_pos c2).symm.trans hf
        replace hf : (some t_cells : Option ((Nat → Int32))) = some g_t_cells := hf
        cases hf
        exact ret_v F hP hS dX5_takeFrom_42
      · replace hf := (if_neg c2).symm.trans hf
        refine lv_aload_n hx hb dX5_takeFrom_24 rfl (lv_at hl 0 rfl) ?_
        refine gf F hP in_X5_takeFrom_X5 0 rfl rfl 0 (by decide) 1 rfl rfl dX5_takeFrom_25 ?_
        refine lv_iload_n hx hb dX5_takeFrom_28 rfl (lv_at hl 2 rfl) ?_
        refine lv_aload_n hx hb dX5_takeFrom_29 rfl (lv_at hl 1 rfl) ?_
        refine gf F hP in_X5_takeFrom_X5 2 rfl rfl 0 (by decide) 1 rfl rfl dX5_takeFrom_30 ?_
        refine lv_iload_n hx hb dX5_takeFrom_33 rfl (lv_at hl 2 rfl) ?_
        obtain ⟨v3, ev3, hf⟩ := bnd hf
        refine ald F hP 3 rfl ev3 dX5_takeFrom_34 ?_
        obtain ⟨g4, eg4, hf⟩ := bnd hf
        refine ast F hP hD hS 1 rfl eg4 dX5_takeFrom_35 (w_X5 cI cB ad_t g4 ++ w_X5 cI cB ad_o o_cells) rfl (fun H locs hP hD hS => ?_)
        refine lv_iinc (v := (x2 + 1)) (lv' := [(2, .int (x2 + 1)), (0, .ref (ad_t 0)), (1, .ref (ad_o 0))]) hx hb dX5_takeFrom_36 hl (k := 2) rfl rfl (by decide) rfl (fun ls hl => ?_)
        refine lv_goto (tgt := 2) hx hb dX5_takeFrom_39 (by decide) ?_
        exact ih (x2 + 1) g4 H locs ls hP hD hS (lv_sub hl [1, 2, 0] rfl) hf

set_option maxHeartbeats 4000000 in
set_option maxRecDepth 100000 in
theorem k_X5_takeFrom (l : Launch) {D : va_G} {cI cB : ClassId} {kK kV : Nat → Nat} (ad_t : Nat → Nat) (ad_o : Nat → Nat) (t_cells : Nat → Int32) (o_cells : Nat → Int32)   {g_t_cells : Nat → Int32} (hf : f_X5_takeFrom t_cells o_cells = some g_t_cells) : Ct l yX5_takeFrom wsX5_takeFrom rm_X5_takeFrom D cI cB kK kV [.ref (ad_t 0), .ref (ad_o 0)] (w_X5 cI cB ad_t t_cells ++ w_X5 cI cB ad_o o_cells) (w_X5 cI cB ad_t g_t_cells ++ w_X5 cI cB ad_o o_cells) none := by
  refine Ct.of (cc := cX5_takeFrom) (maxL := 3) (ret := none) (by decide) rfl (Nat.le_of_ble_eq_true rfl) rfl ?_
  intro p e s m below meth c A ls F hP hD hS hl
  have hl : lv_has ls 3 [(0, .ref (ad_t 0)), (1, .ref (ad_o 0))] := hl
  obtain ⟨hx, hb, hml, hown, hts, hrt, hlocks, hK, hA, hZ⟩ := id F
  obtain ⟨H, hH⟩ : ∃ H, H = s.heap := ⟨_, rfl⟩
  obtain ⟨locs, hLo⟩ : ∃ q : List Loc, q = [] := ⟨_, rfl⟩
  refine (?_ : W p l e rm_X5_takeFrom s m _ below meth c s.heap [] 0 0 _ _)
  rw [← hH, ← hLo]
  rw [← hH] at hP
  have hS : va_S A s.heap H locs := by rw [hH, hLo]; exact hS
  refine lv_iconst (v := 0) hx hb dX5_takeFrom_0 (by decide) ?_
  refine lv_istore_n (lv' := [(2, .int 0), (0, .ref (ad_t 0)), (1, .ref (ad_o 0))]) hx hb dX5_takeFrom_1 rfl hl (by decide) rfl (fun ls hl => ?_)
  exact b_X5_takeFrom_2 F 300 0 t_cells H locs ls hP hD hS (lv_sub hl [1, 2, 0] rfl) hf

/-! J6_bitCount_0f7a4 -/
def rm_J6_bitCount_0f7a4 : Room := { frames := 0, cells := 0, slots := 0, locals := 0 }
theorem nd_J6_bitCount_0f7a4 : yJ6_bitCount_0f7a4.cls ≠ "java/lang/invoke/MethodHandle" ∧ yJ6_bitCount_0f7a4.cls ≠ "java/lang/invoke/VarHandle" ∧ (parseMethodDescriptor yJ6_bitCount_0f7a4.desc).map (fun d => d.parameters.length) = some 1 := by decide +kernel
def f_J6_bitCount_0f7a4  (x0 : Int32) : Option (Int32) := some ((((((((x0 - (((x0).toUInt32 >>> ((1 : Int32).toUInt32 &&& Int32.toUInt32 31)).toInt32 &&& 1431655765)) &&& 858993459) + ((((x0 - (((x0).toUInt32 >>> ((1 : Int32).toUInt32 &&& Int32.toUInt32 31)).toInt32 &&& 1431655765))).toUInt32 >>> ((2 : Int32).toUInt32 &&& Int32.toUInt32 31)).toInt32 &&& 858993459)) + (((((x0 - (((x0).toUInt32 >>> ((1 : Int32).toUInt32 &&& Int32.toUInt32 31)).toInt32 &&& 1431655765)) &&& 858993459) + ((((x0 - (((x0).toUInt32 >>> ((1 : Int32).toUInt32 &&& Int32.toUInt32 31)).toInt32 &&& 1431655765))).toUInt32 >>> ((2 : Int32).toUInt32 &&& Int32.toUInt32 31)).toInt32 &&& 858993459))).toUInt32 >>> ((4 : Int32).toUInt32 &&& Int32.toUInt32 31)).toInt32) &&& 252645135) + (((((((x0 - (((x0).toUInt32 >>> ((1 : Int32).toUInt32 &&& Int32.toUInt32 31)).toInt32 &&& 1431655765)) &&& 858993459) + ((((x0 - (((x0).toUInt32 >>> ((1 : Int32).toUInt32 &&& Int32.toUInt32 31)).toInt32 &&& 1431655765))).toUInt32 >>> ((2 : Int32).toUInt32 &&& Int32.toUInt32 31)).toInt32 &&& 858993459)) + (((((x0 - (((x0).toUInt32 >>> ((1 : Int32).toUInt32 &&& Int32.toUInt32 31)).toInt32 &&& 1431655765)) &&& 858993459) + ((((x0 - (((x0).toUInt32 >>> ((1 : Int32).toUInt32 &&& Int32.toUInt32 31)).toInt32 &&& 1431655765))).toUInt32 >>> ((2 : Int32).toUInt32 &&& Int32.toUInt32 31)).toInt32 &&& 858993459))).toUInt32 >>> ((4 : Int32).toUInt32 &&& Int32.toUInt32 31)).toInt32) &&& 252645135)).toUInt32 >>> ((8 : Int32).toUInt32 &&& Int32.toUInt32 31)).toInt32) + ((((((((x0 - (((x0).toUInt32 >>> ((1 : Int32).toUInt32 &&& Int32.toUInt32 31)).toInt32 &&& 1431655765)) &&& 858993459) + ((((x0 - (((x0).toUInt32 >>> ((1 : Int32).toUInt32 &&& Int32.toUInt32 31)).toInt32 &&& 1431655765))).toUInt32 >>> ((2 : Int32).toUInt32 &&& Int32.toUInt32 31)).toInt32 &&& 858993459)) + (((((x0 - (((x0).toUInt32 >>> ((1 : Int32).toUInt32 &&& Int32.toUInt32 31)).toInt32 &&& 1431655765)) &&& 858993459) + ((((x0 - (((x0).toUInt32 >>> ((1 : Int32).toUInt32 &&& Int32.toUInt32 31)).toInt32 &&& 1431655765))).toUInt32 >>> ((2 : Int32).toUInt32 &&& Int32.toUInt32 31)).toInt32 &&& 858993459))).toUInt32 >>> ((4 : Int32).toUInt32 &&& Int32.toUInt32 31)).toInt32) &&& 252645135) + (((((((x0 - (((x0).toUInt32 >>> ((1 : Int32).toUInt32 &&& Int32.toUInt32 31)).toInt32 &&& 1431655765)) &&& 858993459) + ((((x0 - (((x0).toUInt32 >>> ((1 : Int32).toUInt32 &&& Int32.toUInt32 31)).toInt32 &&& 1431655765))).toUInt32 >>> ((2 : Int32).toUInt32 &&& Int32.toUInt32 31)).toInt32 &&& 858993459)) + (((((x0 - (((x0).toUInt32 >>> ((1 : Int32).toUInt32 &&& Int32.toUInt32 31)).toInt32 &&& 1431655765)) &&& 858993459) + ((((x0 - (((x0).toUInt32 >>> ((1 : Int32).toUInt32 &&& Int32.toUInt32 31)).toInt32 &&& 1431655765))).toUInt32 >>> ((2 : Int32).toUInt32 &&& Int32.toUInt32 31)).toInt32 &&& 858993459))).toUInt32 >>> ((4 : Int32).toUInt32 &&& Int32.toUInt32 31)).toInt32) &&& 252645135)).toUInt32 >>> ((8 : Int32).toUInt32 &&& Int32.toUInt32 31)).toInt32)).toUInt32 >>> ((16 : Int32).toUInt32 &&& Int32.toUInt32 31)).toInt32) &&& 63)
set_option maxHeartbeats 4000000 in
set_option maxRecDepth 100000 in
theorem k_J6_bitCount_0f7a4 (l : Launch) {D : va_G} {cI cB : ClassId} {kK kV : Nat → Nat}   (x0 : Int32) {rr : Int32}  (hf : f_J6_bitCount_0f7a4 x0 = some rr) : Ct l yJ6_bitCount_0f7a4 wsJ6_bitCount_0f7a4 rm_J6_bitCount_0f7a4 D cI cB kK kV [.int x0] ([] : va_W) ([] : va_W) (some (.int rr)) := by
  refine Ct.of (cc := cJ6_bitCount_0f7a4) (maxL := 1) (ret := (some .int)) (by decide) rfl (Nat.le_of_ble_eq_true rfl) rfl ?_
  intro p e s m below meth c A ls F hP hD hS hl
  have hl : lv_has ls 1 [(0, .int x0)] := hl
  obtain ⟨hx, hb, hml, hown, hts, hrt, hlocks, hK, hA, hZ⟩ := id F
  obtain ⟨H, hH⟩ : ∃ H, H = s.heap := ⟨_, rfl⟩
  obtain ⟨locs, hLo⟩ : ∃ q : List Loc, q = [] := ⟨_, rfl⟩
  refine (?_ : W p l e rm_J6_bitCount_0f7a4 s m _ below meth c s.heap [] 0 0 _ _)
  rw [← hH, ← hLo]
  rw [← hH] at hP
  have hS : va_S A s.heap H locs := by rw [hH, hLo]; exact hS
  refine lv_iload_n hx hb dJ6_bitCount_0f7a4_0 rfl (lv_at hl 0 rfl) ?_
  refine lv_iload_n hx hb dJ6_bitCount_0f7a4_1 rfl (lv_at hl 0 rfl) ?_
  refine lv_iconst (v := 1) hx hb dJ6_bitCount_0f7a4_2 (by decide) ?_
  refine lv_iushr hx hb dJ6_bitCount_0f7a4_3 rfl ?_
  refine lv_ldcw (v := 1431655765) hx hb hown (hts _ (List.mem_of_getElem? (i := 1) rfl)) dJ6_bitCount_0f7a4_4 ?_
  refine lv_iand hx hb dJ6_bitCount_0f7a4_7 ?_
  refine lv_isub hx hb dJ6_bitCount_0f7a4_8 ?_
  refine lv_istore_n (lv' := [(0, .int (x0 - (((x0).toUInt32 >>> ((1 : Int32).toUInt32 &&& Int32.toUInt32 31)).toInt32 &&& 1431655765)))]) hx hb dJ6_bitCount_0f7a4_9 rfl hl (by decide) rfl (fun ls hl => ?_)
  refine lv_iload_n hx hb dJ6_bitCount_0f7a4_10 rfl (lv_at hl 0 rfl) ?_
  refine lv_ldcw (v := 858993459) hx hb hown (hts _ (List.mem_of_getElem? (i := 2) rfl)) dJ6_bitCount_0f7a4_11 ?_
  refine lv_iand hx hb dJ6_bitCount_0f7a4_14 ?_
  refine lv_iload_n hx hb dJ6_bitCount_0f7a4_15 rfl (lv_at hl 0 rfl) ?_
  refine lv_iconst (v := 2) hx hb dJ6_bitCount_0f7a4_16 (by decide) ?_
  refine lv_iushr hx hb dJ6_bitCount_0f7a4_17 rfl ?_
  refine lv_ldcw (v := 858993459) hx hb hown (hts _ (List.mem_of_getElem? (i := 2) rfl)) dJ6_bitCount_0f7a4_18 ?_
  refine lv_iand hx hb dJ6_bitCount_0f7a4_21 ?_
  refine lv_iadd hx hb dJ6_bitCount_0f7a4_22 ?_
  refine lv_istore_n (lv' := [(0, .int (((x0 - (((x0).toUInt32 >>> ((1 : Int32).toUInt32 &&& Int32.toUInt32 31)).toInt32 &&& 1431655765)) &&& 858993459) + ((((x0 - (((x0).toUInt32 >>> ((1 : Int32).toUInt32 &&& Int32.toUInt32 31)).toInt32 &&& 1431655765))).toUInt32 >>> ((2 : Int32).toUInt32 &&& Int32.toUInt32 31)).toInt32 &&& 858993459)))]) hx hb dJ6_bitCount_0f7a4_23 rfl hl (by decide) rfl (fun ls hl => ?_)
  refine lv_iload_n hx hb dJ6_bitCount_0f7a4_24 rfl (lv_at hl 0 rfl) ?_
  refine lv_iload_n hx hb dJ6_bitCount_0f7a4_25 rfl (lv_at hl 0 rfl) ?_
  refine lv_iconst (v := 4) hx hb dJ6_bitCount_0f7a4_26 (by decide) ?_
  refine lv_iushr hx hb dJ6_bitCount_0f7a4_27 rfl ?_
  refine lv_iadd hx hb dJ6_bitCount_0f7a4_28 ?_
  refine lv_ldcw (v := 252645135) hx hb hown (hts _ (List.mem_of_getElem? (i := 3) rfl)) dJ6_bitCount_0f7a4_29 ?_
  refine lv_iand hx hb dJ6_bitCount_0f7a4_32 ?_
  refine lv_istore_n (lv' := [(0, .int (((((x0 - (((x0).toUInt32 >>> ((1 : Int32).toUInt32 &&& Int32.toUInt32 31)).toInt32 &&& 1431655765)) &&& 858993459) + ((((x0 - (((x0).toUInt32 >>> ((1 : Int32).toUInt32 &&& Int32.toUInt32 31)).toInt32 &&& 1431655765))).toUInt32 >>> ((2 : Int32).toUInt32 &&& Int32.toUInt32 31)).toInt32 &&& 858993459)) + (((((x0 - (((x0).toUInt32 >>> ((1 : Int32).toUInt32 &&& Int32.toUInt32 31)).toInt32 &&& 1431655765)) &&& 858993459) + ((((x0 - (((x0).toUInt32 >>> ((1 : Int32).toUInt32 &&& Int32.toUInt32 31)).toInt32 &&& 1431655765))).toUInt32 >>> ((2 : Int32).toUInt32 &&& Int32.toUInt32 31)).toInt32 &&& 858993459))).toUInt32 >>> ((4 : Int32).toUInt32 &&& Int32.toUInt32 31)).toInt32) &&& 252645135))]) hx hb dJ6_bitCount_0f7a4_33 rfl hl (by decide) rfl (fun ls hl => ?_)
  refine lv_iload_n hx hb dJ6_bitCount_0f7a4_34 rfl (lv_at hl 0 rfl) ?_
  refine lv_iload_n hx hb dJ6_bitCount_0f7a4_35 rfl (lv_at hl 0 rfl) ?_
  refine lv_bipush (v := 8) hx hb dJ6_bitCount_0f7a4_36 (by decide) ?_
  refine lv_iushr hx hb dJ6_bitCount_0f7a4_38 rfl ?_
  refine lv_iadd hx hb dJ6_bitCount_0f7a4_39 ?_
  refine lv_istore_n (lv' := [(0, .int ((((((x0 - (((x0).toUInt32 >>> ((1 : Int32).toUInt32 &&& Int32.toUInt32 31)).toInt32 &&& 1431655765)) &&& 858993459) + ((((x0 - (((x0).toUInt32 >>> ((1 : Int32).toUInt32 &&& Int32.toUInt32 31)).toInt32 &&& 1431655765))).toUInt32 >>> ((2 : Int32).toUInt32 &&& Int32.toUInt32 31)).toInt32 &&& 858993459)) + (((((x0 - (((x0).toUInt32 >>> ((1 : Int32).toUInt32 &&& Int32.toUInt32 31)).toInt32 &&& 1431655765)) &&& 858993459) + ((((x0 - (((x0).toUInt32 >>> ((1 : Int32).toUInt32 &&& Int32.toUInt32 31)).toInt32 &&& 1431655765))).toUInt32 >>> ((2 : Int32).toUInt32 &&& Int32.toUInt32 31)).toInt32 &&& 858993459))).toUInt32 >>> ((4 : Int32).toUInt32 &&& Int32.toUInt32 31)).toInt32) &&& 252645135) + (((((((x0 - (((x0).toUInt32 >>> ((1 : Int32).toUInt32 &&& Int32.toUInt32 31)).toInt32 &&& 1431655765)) &&& 858993459) + ((((x0 - (((x0).toUInt32 >>> ((1 : Int32).toUInt32 &&& Int32.toUInt32 31)).toInt32 &&& 1431655765))).toUInt32 >>> ((2 : Int32).toUInt32 &&& Int32.toUInt32 31)).toInt32 &&& 858993459)) + (((((x0 - (((x0).toUInt32 >>> ((1 : Int32).toUInt32 &&& Int32.toUInt32 31)).toInt32 &&& 1431655765)) &&& 858993459) + ((((x0 - (((x0).toUInt32 >>> ((1 : Int32).toUInt32 &&& Int32.toUInt32 31)).toInt32 &&& 1431655765))).toUInt32 >>> ((2 : Int32).toUInt32 &&& Int32.toUInt32 31)).toInt32 &&& 858993459))).toUInt32 >>> ((4 : Int32).toUInt32 &&& Int32.toUInt32 31)).toInt32) &&& 252645135)).toUInt32 >>> ((8 : Int32).toUInt32 &&& Int32.toUInt32 31)).toInt32))]) hx hb dJ6_bitCount_0f7a4_40 rfl hl (by decide) rfl (fun ls hl => ?_)
  refine lv_iload_n hx hb dJ6_bitCount_0f7a4_41 rfl (lv_at hl 0 rfl) ?_
  refine lv_iload_n hx hb dJ6_bitCount_0f7a4_42 rfl (lv_at hl 0 rfl) ?_
  refine lv_bipush (v := 16) hx hb dJ6_bitCount_0f7a4_43 (by decide) ?_
  refine lv_iushr hx hb dJ6_bitCount_0f7a4_45 rfl ?_
  refine lv_iadd hx hb dJ6_bitCount_0f7a4_46 ?_
  refine lv_istore_n (lv' := [(0, .int (((((((x0 - (((x0).toUInt32 >>> ((1 : Int32).toUInt32 &&& Int32.toUInt32 31)).toInt32 &&& 1431655765)) &&& 858993459) + ((((x0 - (((x0).toUInt32 >>> ((1 : Int32).toUInt32 &&& Int32.toUInt32 31)).toInt32 &&& 1431655765))).toUInt32 >>> ((2 : Int32).toUInt32 &&& Int32.toUInt32 31)).toInt32 &&& 858993459)) + (((((x0 - (((x0).toUInt32 >>> ((1 : Int32).toUInt32 &&& Int32.toUInt32 31)).toInt32 &&& 1431655765)) &&& 858993459) + ((((x0 - (((x0).toUInt32 >>> ((1 : Int32).toUInt32 &&& Int32.toUInt32 31)).toInt32 &&& 1431655765))).toUInt32 >>> ((2 : Int32).toUInt32 &&& Int32.toUInt32 31)).toInt32 &&& 858993459))).toUInt32 >>> ((4 : Int32).toUInt32 &&& Int32.toUInt32 31)).toInt32) &&& 252645135) + (((((((x0 - (((x0).toUInt32 >>> ((1 : Int32).toUInt32 &&& Int32.toUInt32 31)).toInt32 &&& 1431655765)) &&& 858993459) + ((((x0 - (((x0).toUInt32 >>> ((1 : Int32).toUInt32 &&& Int32.toUInt32 31)).toInt32 &&& 1431655765))).toUInt32 >>> ((2 : Int32).toUInt32 &&& Int32.toUInt32 31)).toInt32 &&& 858993459)) + (((((x0 - (((x0).toUInt32 >>> ((1 : Int32).toUInt32 &&& Int32.toUInt32 31)).toInt32 &&& 1431655765)) &&& 858993459) + ((((x0 - (((x0).toUInt32 >>> ((1 : Int32).toUInt32 &&& Int32.toUInt32 31)).toInt32 &&& 1431655765))).toUInt32 >>> ((2 : Int32).toUInt32 &&& Int32.toUInt32 31)).toInt32 &&& 858993459))).toUInt32 >>> ((4 : Int32).toUInt32 &&& Int32.toUInt32 31)).toInt32) &&& 252645135)).toUInt32 >>> ((8 : Int32).toUInt32 &&& Int32.toUInt32 31)).toInt32) + ((((((((x0 - (((x0).toUInt32 >>> ((1 : Int32).toUInt32 &&& Int32.toUInt32 31)).toInt32 &&& 1431655765)) &&& 858993459) + ((((x0 - (((x0).toUInt32 >>> ((1 : Int32).toUInt32 &&& Int32.toUInt32 31)).toInt32 &&& 1431655765))).toUInt32 >>> ((2 : Int32).toUInt32 &&& Int32.toUInt32 31)).toInt32 &&& 858993459)) + (((((x0 - (((x0).toUInt32 >>> ((1 : Int32).toUInt32 &&& Int32.toUInt32 31)).toInt32 &&& 1431655765)) &&& 858993459) + ((((x0 - (((x0).toUInt32 >>> ((1 : Int32).toUInt32 &&& Int32.toUInt32 31)).toInt32 &&& 1431655765))).toUInt32 >>> ((2 : Int32).toUInt32 &&& Int32.toUInt32 31)).toInt32 &&& 858993459))).toUInt32 >>> ((4 : Int32).toUInt32 &&& Int32.toUInt32 31)).toInt32) &&& 252645135) + (((((((x0 - (((x0).toUInt32 >>> ((1 : Int32).toUInt32 &&& Int32.toUInt32 31)).toInt32 &&& 1431655765)) &&& 858993459) + ((((x0 - (((x0).toUInt32 >>> ((1 : Int32).toUInt32 &&& Int32.toUInt32 31)).toInt32 &&& 1431655765))).toUInt32 >>> ((2 : Int32).toUInt32 &&& Int32.toUInt32 31)).toInt32 &&& 858993459)) + (((((x0 - (((x0).toUInt32 >>> ((1 : Int32).toUInt32 &&& Int32.toUInt32 31)).toInt32 &&& 1431655765)) &&& 858993459) + ((((x0 - (((x0).toUInt32 >>> ((1 : Int32).toUInt32 &&& Int32.toUInt32 31)).toInt32 &&& 1431655765))).toUInt32 >>> ((2 : Int32).toUInt32 &&& Int32.toUInt32 31)).toInt32 &&& 858993459))).toUInt32 >>> ((4 : Int32).toUInt32 &&& Int32.toUInt32 31)).toInt32) &&& 252645135)).toUInt32 >>> ((8 : Int32).toUInt32 &&& Int32.toUInt32 31)).toInt32)).toUInt32 >>> ((16 : Int32).toUInt32 &&& Int32.toUInt32 31)).toInt32))]) hx hb dJ6_bitCount_0f7a4_47 rfl hl (by decide) rfl (fun ls hl => ?_)
  refine lv_iload_n hx hb dJ6_bitCount_0f7a4_48 rfl (lv_at hl 0 rfl) ?_
  refine lv_bipush (v := 63) hx hb dJ6_bitCount_0f7a4_49 (by decide) ?_
  refine lv_iand hx hb dJ6_bitCount_0f7a4_51 ?_
  replace hf : (some ((((((((x0 - (((x0).toUInt32 >>> ((1 : Int32).toUInt32 &&& Int32.toUInt32 31)).toInt32 &&& 1431655765)) &&& 858993459) + ((((x0 - (((x0).toUInt32 >>> ((1 : Int32).toUInt32 &&& Int32.toUInt32 31)).toInt32 &&& 1431655765))).toUInt32 >>> ((2 : Int32).toUInt32 &&& Int32.toUInt32 31)).toInt32 &&& 858993459)) + (((((x0 - (((x0).toUInt32 >>> ((1 : Int32).toUInt32 &&& Int32.toUInt32 31)).toInt32 &&& 1431655765)) &&& 858993459) + ((((x0 - (((x0).toUInt32 >>> ((1 : Int32).toUInt32 &&& Int32.toUInt32 31)).toInt32 &&& 1431655765))).toUInt32 >>> ((2 : Int32).toUInt32 &&& Int32.toUInt32 31)).toInt32 &&& 858993459))).toUInt32 >>> ((4 : Int32).toUInt32 &&& Int32.toUInt32 31)).toInt32) &&& 252645135) + (((((((x0 - (((x0).toUInt32 >>> ((1 : Int32).toUInt32 &&& Int32.toUInt32 31)).toInt32 &&& 1431655765)) &&& 858993459) + ((((x0 - (((x0).toUInt32 >>> ((1 : Int32).toUInt32 &&& Int32.toUInt32 31)).toInt32 &&& 1431655765))).toUInt32 >>> ((2 : Int32).toUInt32 &&& Int32.toUInt32 31)).toInt32 &&& 858993459)) + (((((x0 - (((x0).toUInt32 >>> ((1 : Int32).toUInt32 &&& Int32.toUInt32 31)).toInt32 &&& 1431655765)) &&& 858993459) + ((((x0 - (((x0).toUInt32 >>> ((1 : Int32).toUInt32 &&& Int32.toUInt32 31)).toInt32 &&& 1431655765))).toUInt32 >>> ((2 : Int32).toUInt32 &&& Int32.toUInt32 31)).toInt32 &&& 858993459))).toUInt32 >>> ((4 : Int32).toUInt32 &&& Int32.toUInt32 31)).toInt32) &&& 252645135)).toUInt32 >>> ((8 : Int32).toUInt32 &&& Int32.toUInt32 31)).toInt32) + ((((((((x0 - (((x0).toUInt32 >>> ((1 : Int32).toUInt32 &&& Int32.toUInt32 31)).toInt32 &&& 1431655765)) &&& 858993459) + ((((x0 - (((x0).toUInt32 >>> ((1 : Int32).toUInt32 &&& Int32.toUInt32 31)).toInt32 &&& 1431655765))).toUInt32 >>> ((2 : Int32).toUInt32 &&& Int32.toUInt32 31)).toInt32 &&& 858993459)) + (((((x0 - (((x0).toUInt32 >>> ((1 : Int32).toUInt32 &&& Int32.toUInt32 31)).toInt32 &&& 1431655765)) &&& 858993459) + ((((x0 - (((x0).toUInt32 >>> ((1 : Int32).toUInt32 &&& Int32.toUInt32 31)).toInt32 &&& 1431655765))).toUInt32 >>> ((2 : Int32).toUInt32 &&& Int32.toUInt32 31)).toInt32 &&& 858993459))).toUInt32 >>> ((4 : Int32).toUInt32 &&& Int32.toUInt32 31)).toInt32) &&& 252645135) + (((((((x0 - (((x0).toUInt32 >>> ((1 : Int32).toUInt32 &&& Int32.toUInt32 31)).toInt32 &&& 1431655765)) &&& 858993459) + ((((x0 - (((x0).toUInt32 >>> ((1 : Int32).toUInt32 &&& Int32.toUInt32 31)).toInt32 &&& 1431655765))).toUInt32 >>> ((2 : Int32).toUInt32 &&& Int32.toUInt32 31)).toInt32 &&& 858993459)) + (((((x0 - (((x0).toUInt32 >>> ((1 : Int32).toUInt32 &&& Int32.toUInt32 31)).toInt32 &&& 1431655765)) &&& 858993459) + ((((x0 - (((x0).toUInt32 >>> ((1 : Int32).toUInt32 &&& Int32.toUInt32 31)).toInt32 &&& 1431655765))).toUInt32 >>> ((2 : Int32).toUInt32 &&& Int32.toUInt32 31)).toInt32 &&& 858993459))).toUInt32 >>> ((4 : Int32).toUInt32 &&& Int32.toUInt32 31)).toInt32) &&& 252645135)).toUInt32 >>> ((8 : Int32).toUInt32 &&& Int32.toUInt32 31)).toInt32)).toUInt32 >>> ((16 : Int32).toUInt32 &&& Int32.toUInt32 31)).toInt32) &&& 63) : Option (Int32)) = some rr := hf
  cases hf
  exact ret_i F hP hS dJ6_bitCount_0f7a4_52

