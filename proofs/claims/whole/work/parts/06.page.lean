/-! X2_write -/
def rm_X2_write : Room := { frames := 1, cells := 0, slots := 0, locals := 22 }
theorem in_X2_write_X2 : ∀ w ∈ u_ws RX2 TX2 2, w ∈ wsX2_write := fun _ h => List.mem_cons_of_mem _ (List.mem_append_left _ (List.mem_append_right _ (h)))
theorem nd_X2_write : yX2_write.cls = RX2 ∧ yX2_write.cls ≠ "java/lang/invoke/MethodHandle" ∧ yX2_write.cls ≠ "java/lang/invoke/VarHandle" ∧ (parseMethodDescriptor yX2_write.desc).map (fun d => d.parameters.length) = some 1 := by decide +kernel
def f_X2_write (t_codes : Nat → Int32) (t_letters : Int32) (x1 : Int32) : Option ((Nat → Int32) × Int32) := (f_X3_set 25 t_codes t_letters x1).bind (fun g1 => some (g1, (t_letters + 1)))
set_option maxHeartbeats 4000000 in
set_option maxRecDepth 100000 in
theorem k_X2_write (l : Launch) {D : va_G} {cI cB : ClassId} {kK kV : Nat → Nat} (ad_t : Nat → Nat) (t_codes : Nat → Int32) (t_letters : Int32) (x1 : Int32)  {g_t_codes : Nat → Int32} {g_t_letters : Int32} (hf : f_X2_write t_codes t_letters x1 = some (g_t_codes, g_t_letters)) : Ct l yX2_write wsX2_write rm_X2_write D cI cB kK kV [.ref (ad_t 0), .int x1] (w_X2 cI cB ad_t t_codes t_letters) (w_X2 cI cB ad_t g_t_codes g_t_letters) none := by
  refine Ct.of (cc := cX2_write) (maxL := 2) (ret := none) (by decide) rfl (Nat.le_of_ble_eq_true rfl) rfl ?_
  intro p e s m below meth c A ls F hP hD hS hl
  have hl : lv_has ls 2 [(0, .ref (ad_t 0)), (1, .int x1)] := hl
  obtain ⟨hx, hb, hml, hown, hts, hrt, hlocks, hK, hA, hZ⟩ := id F
  obtain ⟨H, hH⟩ : ∃ H, H = s.heap := ⟨_, rfl⟩
  obtain ⟨locs, hLo⟩ : ∃ q : List Loc, q = [] := ⟨_, rfl⟩
  refine (?_ : W p l e rm_X2_write s m _ below meth c s.heap [] 0 0 _ _)
  rw [← hH, ← hLo]
  rw [← hH] at hP
  have hS : va_S A s.heap H locs := by rw [hH, hLo]; exact hS
  refine lv_aload_n hx hb dX2_write_0 rfl (lv_at hl 0 rfl) ?_
  refine gf F hP in_X2_write_X2 0 rfl rfl 0 (by decide) 1 rfl rfl dX2_write_1 ?_
  refine lv_aload_n hx hb dX2_write_4 rfl (lv_at hl 0 rfl) ?_
  refine gf F hP in_X2_write_X2 0 rfl rfl 1 (by decide) 2 rfl rfl dX2_write_5 ?_
  refine lv_iload_n hx hb dX2_write_8 rfl (lv_at hl 1 rfl) ?_
  obtain ⟨g1, e2, hf⟩ := bnd hf
  refine cV F hP hD hS (k_X3_set l (sh ad_t 1) 25 t_codes t_letters x1 e2) gX2_write_X3_set rfl ⟨rfl, rfl⟩ nd_X3_set ⟨Nat.le_of_ble_eq_true rfl, Nat.le_of_ble_eq_true rfl⟩ 1 3 rfl rfl rfl hl.1 rfl (Nat.le_of_ble_eq_true rfl) dX2_write_9 (pm1 (ws := (w_X2 cI cB ad_t t_codes t_letters)) (X := List.take 1 (w_X2 cI cB ad_t t_codes t_letters)) (Y := List.drop 3 (w_X2 cI cB ad_t t_codes t_letters)) rfl) (pm1 (ws := (w_X2 cI cB ad_t g1 t_letters)) (X := List.take 1 (w_X2 cI cB ad_t t_codes t_letters)) (Y := List.drop 3 (w_X2 cI cB ad_t t_codes t_letters)) rfl) (fun H locs hP hD hS => ?_)
  refine lv_aload_n hx hb dX2_write_12 rfl (lv_at hl 0 rfl) ?_
  refine lv_dup hx hb dX2_write_13 rfl ?_
  refine gf F hP in_X2_write_X2 0 rfl rfl 1 (by decide) 2 rfl rfl dX2_write_14 ?_
  refine lv_iconst (v := 1) hx hb dX2_write_17 (by decide) ?_
  refine lv_iadd hx hb dX2_write_18 ?_
  refine pf F hP hD hS in_X2_write_X2 tyX2 tyX2_ok nmX2 0 rfl rfl 1 (by decide) 2 rfl rfl rfl rfl (Nat.le_of_ble_eq_true rfl) dX2_write_19 (w_X2 cI cB ad_t g1 (t_letters + 1)) rfl (fun H locs hP hD hS => ?_)
  replace hf : (some (g1, (t_letters + 1)) : Option ((Nat → Int32) × Int32)) = some (g_t_codes, g_t_letters) := hf
  cases hf
  exact ret_v F hP hS dX2_write_22

/-! X2_fits -/
def rm_X2_fits : Room := { frames := 5, cells := 0, slots := 0, locals := 111 }
theorem nd_X2_fits : yX2_fits.cls ≠ "java/lang/invoke/MethodHandle" ∧ yX2_fits.cls ≠ "java/lang/invoke/VarHandle" ∧ (parseMethodDescriptor yX2_fits.desc).map (fun d => d.parameters.length) = some 2 := by decide +kernel
def f_X2_fits_52    : Option (Int32) := some 0
def f_X2_fits  (x0 : Int32) (x1 : Int32) : Option (Int32) := (if x0 < 23 then (if (x0 - x0 / 6 * 6) = 0 then (f_X2_kindCalled x1).bind (fun v7 => (if v7 = (-1) then some 0 else some 1)) else (if 4 < (x0 - x0 / 6 * 6) then (if x1 = 44 then some 1 else some 0) else (if x1 < 48 then f_X2_fits_52  else (if 57 < x1 then f_X2_fits_52  else some 1)))) else some 0)
set_option maxHeartbeats 4000000 in
set_option maxRecDepth 100000 in
theorem b_X2_fits_52 {p : Program} {l : Launch} {e : Env} {s : State} {m : MethodId} {args : Array Value} {below : List Frame} {meth : Method} {c : Code} {D : va_G} {cI cB : ClassId} {kK kV : Nat → Nat} {A : Nat → Prop} (F : Fx p m c s meth args cX2_fits 3 RX2 wsX2_fits (some .boolean) D cI cB kK kV A)   {rr : Int32}  : ∀  (H : Heap) (locs : List Loc) (ls : Array Slot), va_P D vwCl ([] : va_W) H → va_D A ([] : va_W) → va_S A s.heap H locs → lv_has ls 3 [] → f_X2_fits_52    = some rr → W p l e rm_X2_fits s m args below meth c H locs 0 0 (Zq D below args s A ([] : va_W) (some (.int rr))) (F0 m 52 ls []) := by
  obtain ⟨hx, hb, hml, hown, hts, hrt, hlocks, hK, hA, hZ⟩ := id F
  intro H locs ls hP hD hS hl hf
  refine lv_iconst (v := 0) hx hb dX2_fits_52 (by decide) ?_
  refine lv_goto (tgt := 67) hx hb dX2_fits_53 (by decide) ?_
  replace hf : (some 0 : Option (Int32)) = some rr := hf
  cases hf
  exact ret_z F rfl hP hS dX2_fits_67

set_option maxHeartbeats 4000000 in
set_option maxRecDepth 100000 in
theorem k_X2_fits (l : Launch) {D : va_G} {cI cB : ClassId} {kK kV : Nat → Nat}   (x0 : Int32) (x1 : Int32) {rr : Int32}  (hf : f_X2_fits x0 x1 = some rr) : Ct l yX2_fits wsX2_fits rm_X2_fits D cI cB kK kV [.int x0, .int x1] ([] : va_W) ([] : va_W) (some (.int rr)) := by
  refine Ct.of (cc := cX2_fits) (maxL := 3) (ret := (some .boolean)) (by decide) rfl (Nat.le_of_ble_eq_true rfl) rfl ?_
  intro p e s m below meth c A ls F hP hD hS hl
  have hl : lv_has ls 3 [(0, .int x0), (1, .int x1)] := hl
  obtain ⟨hx, hb, hml, hown, hts, hrt, hlocks, hK, hA, hZ⟩ := id F
  obtain ⟨H, hH⟩ : ∃ H, H = s.heap := ⟨_, rfl⟩
  obtain ⟨locs, hLo⟩ : ∃ q : List Loc, q = [] := ⟨_, rfl⟩
  refine (?_ : W p l e rm_X2_fits s m _ below meth c s.heap [] 0 0 _ _)
  rw [← hH, ← hLo]
  rw [← hH] at hP
  have hS : va_S A s.heap H locs := by rw [hH, hLo]; exact hS
  refine lv_iload_n hx hb dX2_fits_0 rfl (lv_at hl 0 rfl) ?_
  refine lv_bipush (v := 23) hx hb dX2_fits_1 (by decide) ?_
  refine lv_icmp_lt (tgt := 8) hx hb dX2_fits_3 (by decide) (fun c1 => ?_) (fun c1 => ?_)
  · replace hf := (if_pos c1).symm.trans hf
    refine lv_iload_n hx hb dX2_fits_8 rfl (lv_at hl 0 rfl) ?_
    refine lv_bipush (v := 6) hx hb dX2_fits_9 (by decide) ?_
    refine lv_irem hx hb dX2_fits_11 (by decide) ?_
    refine lv_istore_n (lv' := [(2, .int (x0 - x0 / 6 * 6)), (0, .int x0), (1, .int x1)]) hx hb dX2_fits_12 rfl hl (by decide) rfl (fun ls hl => ?_)
    refine lv_iload_n hx hb dX2_fits_13 rfl (lv_at hl 0 rfl) ?_
    refine lv_if_ne (tgt := 31) hx hb dX2_fits_14 (by decide) (fun c2 => ?_) (fun c2 => ?_)
    · replace hf := (if_neg c2).symm.trans hf
      refine lv_iload_n hx hb dX2_fits_31 rfl (lv_at hl 0 rfl) ?_
      refine lv_iconst (v := 4) hx hb dX2_fits_32 (by decide) ?_
      refine lv_icmp_gt (tgt := 56) hx hb dX2_fits_33 (by decide) (fun c3 => ?_) (fun c3 => ?_)
      · replace hf := (if_pos c3).symm.trans hf
        refine lv_iload_n hx hb dX2_fits_56 rfl (lv_at hl 2 rfl) ?_
        refine lv_bipush (v := 44) hx hb dX2_fits_57 (by decide) ?_
        refine lv_icmp_ne (tgt := 66) hx hb dX2_fits_59 (by decide) (fun c4 => ?_) (fun c4 => ?_)
        · replace hf := (if_neg c4).symm.trans hf
          refine lv_iconst (v := 0) hx hb dX2_fits_66 (by decide) ?_
          replace hf : (some 0 : Option (Int32)) = some rr := hf
          cases hf
          exact ret_z F rfl hP hS dX2_fits_67
        · replace hf := (if_pos c4).symm.trans hf
          refine lv_iconst (v := 1) hx hb dX2_fits_62 (by decide) ?_
          refine lv_goto (tgt := 67) hx hb dX2_fits_63 (by decide) ?_
          replace hf : (some 1 : Option (Int32)) = some rr := hf
          cases hf
          exact ret_z F rfl hP hS dX2_fits_67
      · replace hf := (if_neg c3).symm.trans hf
        refine lv_iload_n hx hb dX2_fits_36 rfl (lv_at hl 2 rfl) ?_
        refine lv_bipush (v := 48) hx hb dX2_fits_37 (by decide) ?_
        refine lv_icmp_lt (tgt := 52) hx hb dX2_fits_39 (by decide) (fun c5 => ?_) (fun c5 => ?_)
        · replace hf := (if_pos c5).symm.trans hf
          exact b_X2_fits_52 F   H locs ls hP hD hS (lv_sub hl [] rfl) hf
        · replace hf := (if_neg c5).symm.trans hf
          refine lv_iload_n hx hb dX2_fits_42 rfl (lv_at hl 2 rfl) ?_
          refine lv_bipush (v := 57) hx hb dX2_fits_43 (by decide) ?_
          refine lv_icmp_gt (tgt := 52) hx hb dX2_fits_45 (by decide) (fun c6 => ?_) (fun c6 => ?_)
          · replace hf := (if_pos c6).symm.trans hf
            exact b_X2_fits_52 F   H locs ls hP hD hS (lv_sub hl [] rfl) hf
          · replace hf := (if_neg c6).symm.trans hf
            refine lv_iconst (v := 1) hx hb dX2_fits_48 (by decide) ?_
            refine lv_goto (tgt := 67) hx hb dX2_fits_49 (by decide) ?_
            replace hf : (some 1 : Option (Int32)) = some rr := hf
            cases hf
            exact ret_z F rfl hP hS dX2_fits_67
    · replace hf := (if_pos c2).symm.trans hf
      refine lv_iload_n hx hb dX2_fits_17 rfl (lv_at hl 2 rfl) ?_
      obtain ⟨v7, e8, hf⟩ := bnd hf
      refine cS F hP hD hS (k_X2_kindCalled l  x1 e8) gX2_fits_X2_kindCalled rfl ⟨rfl, rfl⟩ nd_X2_kindCalled ⟨Nat.le_of_ble_eq_true rfl, Nat.le_of_ble_eq_true rfl⟩ rfl hl.1 rfl (Nat.le_of_ble_eq_true rfl) dX2_fits_18 (pmE ([] : va_W)) (pmE ([] : va_W)) (fun H locs hP hD hS => ?_)
      refine lv_iconst (v := (-1)) hx hb dX2_fits_21 (by decide) ?_
      refine lv_icmp_eq (tgt := 29) hx hb dX2_fits_22 (by decide) (fun c9 => ?_) (fun c9 => ?_)
      · replace hf := (if_pos c9).symm.trans hf
        refine lv_iconst (v := 0) hx hb dX2_fits_29 (by decide) ?_
        replace hf : (some 0 : Option (Int32)) = some rr := hf
        cases hf
        exact ret_z F rfl hP hS dX2_fits_30
      · replace hf := (if_neg c9).symm.trans hf
        refine lv_iconst (v := 1) hx hb dX2_fits_25 (by decide) ?_
        refine lv_goto (tgt := 30) hx hb dX2_fits_26 (by decide) ?_
        replace hf : (some 1 : Option (Int32)) = some rr := hf
        cases hf
        exact ret_z F rfl hP hS dX2_fits_30
  · replace hf := (if_neg c1).symm.trans hf
    refine lv_iconst (v := 0) hx hb dX2_fits_6 (by decide) ?_
    replace hf : (some 0 : Option (Int32)) = some rr := hf
    cases hf
    exact ret_z F rfl hP hS dX2_fits_7

/-! X2_firstFault -/
def rm_X2_firstFault : Room := { frames := 6, cells := 0, slots := 0, locals := 133 }
theorem in_X2_firstFault_X2 : ∀ w ∈ u_ws RX2 TX2 2, w ∈ wsX2_firstFault := fun _ h => List.mem_cons_of_mem _ (List.mem_append_left _ (List.mem_append_right _ (h)))
theorem nd_X2_firstFault : yX2_firstFault.cls = RX2 ∧ yX2_firstFault.cls ≠ "java/lang/invoke/MethodHandle" ∧ yX2_firstFault.cls ≠ "java/lang/invoke/VarHandle" ∧ (parseMethodDescriptor yX2_firstFault.desc).map (fun d => d.parameters.length) = some 0 := by decide +kernel
def f_X2_firstFault_2 (t_codes : Nat → Int32) (t_letters : Int32)  : Nat → Int32 → Option (Int32)
  | 0, _ => none
  | n + 1, x1 => (if 25 ≤ x1 then some t_letters else (if t_letters ≤ x1 then some t_letters else (f_X3_get 25 t_codes x1).bind (fun v3 => (f_X2_fits x1 v3).bind (fun v5 => (if v5 = 0 then some x1 else f_X2_firstFault_2 t_codes t_letters  n (x1 + 1))))))
def f_X2_firstFault (t_codes : Nat → Int32) (t_letters : Int32)  : Option (Int32) := f_X2_firstFault_2 t_codes t_letters 300 0
set_option maxHeartbeats 4000000 in
set_option maxRecDepth 100000 in
theorem b_X2_firstFault_2 {p : Program} {l : Launch} {e : Env} {s : State} {m : MethodId} {args : Array Value} {below : List Frame} {meth : Method} {c : Code} {D : va_G} {cI cB : ClassId} {kK kV : Nat → Nat} {A : Nat → Prop} (F : Fx p m c s meth args cX2_firstFault 2 RX2 wsX2_firstFault (some .int) D cI cB kK kV A) {ad_t : Nat → Nat} {t_codes : Nat → Int32} {t_letters : Int32} {rr : Int32}  : ∀ (n : Nat), ∀ (x1 : Int32) (H : Heap) (locs : List Loc) (ls : Array Slot), va_P D vwCl (w_X2 cI cB ad_t t_codes t_letters) H → va_D A (w_X2 cI cB ad_t t_codes t_letters) → va_S A s.heap H locs → lv_has ls 2 [(0, .ref (ad_t 0)), (1, .int x1)] → f_X2_firstFault_2 t_codes t_letters  n x1 = some rr → W p l e rm_X2_firstFault s m args below meth c H locs 0 0 (Zq D below args s A (w_X2 cI cB ad_t t_codes t_letters) (some (.int rr))) (F0 m 2 ls []) := by
  obtain ⟨hx, hb, hml, hown, hts, hrt, hlocks, hK, hA, hZ⟩ := id F
  intro n
  induction n with
  | zero =>
    intro x1 H locs ls hP hD hS hl hf
    cases hf
  | succ n ih =>
    intro x1 H locs ls hP hD hS hl hf
    refine lv_iload_n hx hb dX2_firstFault_2 rfl (lv_at hl 1 rfl) ?_
    refine lv_bipush (v := 25) hx hb dX2_firstFault_3 (by decide) ?_
    refine lv_icmp_ge (tgt := 39) hx hb dX2_firstFault_5 (by decide) (fun c1 => ?_) (fun c1 => ?_)
    · replace hf := (if_pos c1).symm.trans hf
      refine lv_aload_n hx hb dX2_firstFault_39 rfl (lv_at hl 0 rfl) ?_
      refine gf F hP in_X2_firstFault_X2 0 rfl rfl 1 (by decide) 1 rfl rfl dX2_firstFault_40 ?_
      replace hf : (some t_letters : Option (Int32)) = some rr := hf
      cases hf
      exact ret_i F hP hS dX2_firstFault_43
    · replace hf := (if_neg c1).symm.trans hf
      refine lv_iload_n hx hb dX2_firstFault_8 rfl (lv_at hl 1 rfl) ?_
      refine lv_aload_n hx hb dX2_firstFault_9 rfl (lv_at hl 0 rfl) ?_
      refine gf F hP in_X2_firstFault_X2 0 rfl rfl 1 (by decide) 1 rfl rfl dX2_firstFault_10 ?_
      refine lv_icmp_ge (tgt := 39) hx hb dX2_firstFault_13 (by decide) (fun c2 => ?_) (fun c2 => ?_)
      · replace hf := (if_pos c2).symm.trans hf
        refine lv_aload_n hx hb dX2_firstFault_39 rfl (lv_at hl 0 rfl) ?_
        refine gf F hP in_X2_firstFault_X2 0 rfl rfl 1 (by decide) 1 rfl rfl dX2_firstFault_40 ?_
        replace hf : (some t_letters : Option (Int32)) = some rr := hf
        cases hf
        exact ret_i F hP hS dX2_firstFault_43
      · replace hf := (if_neg c2).symm.trans hf
        refine lv_iload_n hx hb dX2_firstFault_16 rfl (lv_at hl 1 rfl) ?_
        refine lv_aload_n hx hb dX2_firstFault_17 rfl (lv_at hl 0 rfl) ?_
        refine gf F hP in_X2_firstFault_X2 0 rfl rfl 0 (by decide) 2 rfl rfl dX2_firstFault_18 ?_
        refine lv_iload_n hx hb dX2_firstFault_21 rfl (lv_at hl 1 rfl) ?_
        obtain ⟨v3, e4, hf⟩ := bnd hf
        refine cV F hP hD hS (k_X3_get l (sh ad_t 1) 25 t_codes x1 e4) gX2_firstFault_X3_get rfl ⟨rfl, rfl⟩ nd_X3_get ⟨Nat.le_of_ble_eq_true rfl, Nat.le_of_ble_eq_true rfl⟩ 1 3 rfl rfl rfl hl.1 rfl (Nat.le_of_ble_eq_true rfl) dX2_firstFault_22 (pm1 (ws := (w_X2 cI cB ad_t t_codes t_letters)) (X := List.take 1 (w_X2 cI cB ad_t t_codes t_letters)) (Y := List.drop 3 (w_X2 cI cB ad_t t_codes t_letters)) rfl) (pm1 (ws := (w_X2 cI cB ad_t t_codes t_letters)) (X := List.take 1 (w_X2 cI cB ad_t t_codes t_letters)) (Y := List.drop 3 (w_X2 cI cB ad_t t_codes t_letters)) rfl) (fun H locs hP hD hS => ?_)
        obtain ⟨v5, e6, hf⟩ := bnd hf
        refine cS F hP hD hS (k_X2_fits l  x1 v3 e6) gX2_firstFault_X2_fits rfl ⟨rfl, rfl⟩ nd_X2_fits ⟨Nat.le_of_ble_eq_true rfl, Nat.le_of_ble_eq_true rfl⟩ rfl hl.1 rfl (Nat.le_of_ble_eq_true rfl) dX2_firstFault_25 (pmE (w_X2 cI cB ad_t t_codes t_letters)) (pmE (w_X2 cI cB ad_t t_codes t_letters)) (fun H locs hP hD hS => ?_)
        refine lv_if_ne (tgt := 33) hx hb dX2_firstFault_28 (by decide) (fun c7 => ?_) (fun c7 => ?_)
        · replace hf := (if_neg c7).symm.trans hf
          refine lv_iinc (v := (x1 + 1)) (lv' := [(1, .int (x1 + 1)), (0, .ref (ad_t 0))]) hx hb dX2_firstFault_33 hl (k := 1) rfl rfl (by decide) rfl (fun ls hl => ?_)
          refine lv_goto (tgt := 2) hx hb dX2_firstFault_36 (by decide) ?_
          exact ih (x1 + 1) H locs ls hP hD hS (lv_sub hl [1, 0] rfl) hf
        · replace hf := (if_pos c7).symm.trans hf
          refine lv_iload_n hx hb dX2_firstFault_31 rfl (lv_at hl 1 rfl) ?_
          replace hf : (some x1 : Option (Int32)) = some rr := hf
          cases hf
          exact ret_i F hP hS dX2_firstFault_32

set_option maxHeartbeats 4000000 in
set_option maxRecDepth 100000 in
theorem k_X2_firstFault (l : Launch) {D : va_G} {cI cB : ClassId} {kK kV : Nat → Nat} (ad_t : Nat → Nat) (t_codes : Nat → Int32) (t_letters : Int32)  {rr : Int32}  (hf : f_X2_firstFault t_codes t_letters = some rr) : Ct l yX2_firstFault wsX2_firstFault rm_X2_firstFault D cI cB kK kV [.ref (ad_t 0)] (w_X2 cI cB ad_t t_codes t_letters) (w_X2 cI cB ad_t t_codes t_letters) (some (.int rr)) := by
  refine Ct.of (cc := cX2_firstFault) (maxL := 2) (ret := (some .int)) (by decide) rfl (Nat.le_of_ble_eq_true rfl) rfl ?_
  intro p e s m below meth c A ls F hP hD hS hl
  have hl : lv_has ls 2 [(0, .ref (ad_t 0))] := hl
  obtain ⟨hx, hb, hml, hown, hts, hrt, hlocks, hK, hA, hZ⟩ := id F
  obtain ⟨H, hH⟩ : ∃ H, H = s.heap := ⟨_, rfl⟩
  obtain ⟨locs, hLo⟩ : ∃ q : List Loc, q = [] := ⟨_, rfl⟩
  refine (?_ : W p l e rm_X2_firstFault s m _ below meth c s.heap [] 0 0 _ _)
  rw [← hH, ← hLo]
  rw [← hH] at hP
  have hS : va_S A s.heap H locs := by rw [hH, hLo]; exact hS
  refine lv_iconst (v := 0) hx hb dX2_firstFault_0 (by decide) ?_
  refine lv_istore_n (lv' := [(1, .int 0), (0, .ref (ad_t 0))]) hx hb dX2_firstFault_1 rfl hl (by decide) rfl (fun ls hl => ?_)
  exact b_X2_firstFault_2 F 300 0 H locs ls hP hD hS (lv_sub hl [1, 0] rfl) hf

/-! X2_heirsNamed -/
def rm_X2_heirsNamed : Room := { frames := 7, cells := 0, slots := 0, locals := 154 }
theorem in_X2_heirsNamed_X2 : ∀ w ∈ u_ws RX2 TX2 2, w ∈ wsX2_heirsNamed := fun _ h => List.mem_cons_of_mem _ (List.mem_append_left _ (List.mem_append_right _ (h)))
theorem nd_X2_heirsNamed : yX2_heirsNamed.cls = RX2 ∧ yX2_heirsNamed.cls ≠ "java/lang/invoke/MethodHandle" ∧ yX2_heirsNamed.cls ≠ "java/lang/invoke/VarHandle" ∧ (parseMethodDescriptor yX2_heirsNamed.desc).map (fun d => d.parameters.length) = some 0 := by decide +kernel
def f_X2_heirsNamed_32 (t_codes : Nat → Int32) (t_letters : Int32)  (x1 : Int32) (k0 : Int32) : Option (Int32) := (if k0 = 0 then some 0 else (f_X2_firstFault t_codes t_letters).bind (fun v2 => (if v2 = t_letters then some x1 else some 0)))
def f_X2_heirsNamed_31 (t_codes : Nat → Int32) (t_letters : Int32)  (x1 : Int32) : Option (Int32) := f_X2_heirsNamed_32 t_codes t_letters x1 0
def f_X2_heirsNamed (t_codes : Nat → Int32) (t_letters : Int32)  : Option (Int32) := (if ((t_letters + 1) - (t_letters + 1) / 6 * 6) = 0 then (if ((t_letters + 1) / 6) < 2 then f_X2_heirsNamed_31 t_codes t_letters ((t_letters + 1) / 6) else f_X2_heirsNamed_32 t_codes t_letters ((t_letters + 1) / 6) 1) else f_X2_heirsNamed_31 t_codes t_letters ((t_letters + 1) / 6))
set_option maxHeartbeats 4000000 in
set_option maxRecDepth 100000 in
theorem b_X2_heirsNamed_32 {p : Program} {l : Launch} {e : Env} {s : State} {m : MethodId} {args : Array Value} {below : List Frame} {meth : Method} {c : Code} {D : va_G} {cI cB : ClassId} {kK kV : Nat → Nat} {A : Nat → Prop} (F : Fx p m c s meth args cX2_heirsNamed 3 RX2 wsX2_heirsNamed (some .int) D cI cB kK kV A) {ad_t : Nat → Nat} {t_codes : Nat → Int32} {t_letters : Int32} {rr : Int32}  : ∀ (x1 : Int32) (k0 : Int32) (H : Heap) (locs : List Loc) (ls : Array Slot), va_P D vwCl (w_X2 cI cB ad_t t_codes t_letters) H → va_D A (w_X2 cI cB ad_t t_codes t_letters) → va_S A s.heap H locs → lv_has ls 3 [(0, .ref (ad_t 0)), (1, .int x1)] → f_X2_heirsNamed_32 t_codes t_letters  x1 k0 = some rr → W p l e rm_X2_heirsNamed s m args below meth c H locs 0 0 (Zq D below args s A (w_X2 cI cB ad_t t_codes t_letters) (some (.int rr))) (F0 m 32 ls [.int k0]) := by
  obtain ⟨hx, hb, hml, hown, hts, hrt, hlocks, hK, hA, hZ⟩ := id F
  intro x1 k0 H locs ls hP hD hS hl hf
  refine lv_istore_n (lv' := [(2, .int k0), (0, .ref (ad_t 0)), (1, .int x1)]) hx hb dX2_heirsNamed_32 rfl hl (by decide) rfl (fun ls hl => ?_)
  refine lv_iload_n hx hb dX2_heirsNamed_33 rfl (lv_at hl 0 rfl) ?_
  refine lv_if_eq (tgt := 52) hx hb dX2_heirsNamed_34 (by decide) (fun c1 => ?_) (fun c1 => ?_)
  · replace hf := (if_pos c1).symm.trans hf
    refine lv_iconst (v := 0) hx hb dX2_heirsNamed_52 (by decide) ?_
    replace hf : (some 0 : Option (Int32)) = some rr := hf
    cases hf
    exact ret_i F hP hS dX2_heirsNamed_53
  · replace hf := (if_neg c1).symm.trans hf
    refine lv_aload_n hx hb dX2_heirsNamed_37 rfl (lv_at hl 1 rfl) ?_
    obtain ⟨v2, e3, hf⟩ := bnd hf
    refine cV F hP hD hS (k_X2_firstFault l ad_t t_codes t_letters  e3) gX2_heirsNamed_X2_firstFault rfl ⟨rfl, rfl⟩ nd_X2_firstFault ⟨Nat.le_of_ble_eq_true rfl, Nat.le_of_ble_eq_true rfl⟩ 0 2 rfl rfl rfl hl.1 rfl (Nat.le_of_ble_eq_true rfl) dX2_heirsNamed_38 (pm0 (w_X2 cI cB ad_t t_codes t_letters)) (pm0 (w_X2 cI cB ad_t t_codes t_letters)) (fun H locs hP hD hS => ?_)
    refine lv_aload_n hx hb dX2_heirsNamed_41 rfl (lv_at hl 1 rfl) ?_
    refine gf F hP in_X2_heirsNamed_X2 0 rfl rfl 1 (by decide) 1 rfl rfl dX2_heirsNamed_42 ?_
    refine lv_icmp_ne (tgt := 52) hx hb dX2_heirsNamed_45 (by decide) (fun c4 => ?_) (fun c4 => ?_)
    · replace hf := (if_neg c4).symm.trans hf
      refine lv_iconst (v := 0) hx hb dX2_heirsNamed_52 (by decide) ?_
      replace hf : (some 0 : Option (Int32)) = some rr := hf
      cases hf
      exact ret_i F hP hS dX2_heirsNamed_53
    · replace hf := (if_pos c4).symm.trans hf
      refine lv_iload_n hx hb dX2_heirsNamed_48 rfl (lv_at hl 2 rfl) ?_
      refine lv_goto (tgt := 53) hx hb dX2_heirsNamed_49 (by decide) ?_
      replace hf : (some x1 : Option (Int32)) = some rr := hf
      cases hf
      exact ret_i F hP hS dX2_heirsNamed_53

set_option maxHeartbeats 4000000 in
set_option maxRecDepth 100000 in
theorem b_X2_heirsNamed_31 {p : Program} {l : Launch} {e : Env} {s : State} {m : MethodId} {args : Array Value} {below : List Frame} {meth : Method} {c : Code} {D : va_G} {cI cB : ClassId} {kK kV : Nat → Nat} {A : Nat → Prop} (F : Fx p m c s meth args cX2_heirsNamed 3 RX2 wsX2_heirsNamed (some .int) D cI cB kK kV A) {ad_t : Nat → Nat} {t_codes : Nat → Int32} {t_letters : Int32} {rr : Int32}  : ∀ (x1 : Int32) (H : Heap) (locs : List Loc) (ls : Array Slot), va_P D vwCl (w_X2 cI cB ad_t t_codes t_letters) H → va_D A (w_X2 cI cB ad_t t_codes t_letters) → va_S A s.heap H locs → lv_has ls 3 [(0, .ref (ad_t 0)), (1, .int x1)] → f_X2_heirsNamed_31 t_codes t_letters  x1 = some rr → W p l e rm_X2_heirsNamed s m args below meth c H locs 0 0 (Zq D below args s A (w_X2 cI cB ad_t t_codes t_letters) (some (.int rr))) (F0 m 31 ls []) := by
  obtain ⟨hx, hb, hml, hown, hts, hrt, hlocks, hK, hA, hZ⟩ := id F
  intro x1 H locs ls hP hD hS hl hf
  refine lv_iconst (v := 0) hx hb dX2_heirsNamed_31 (by decide) ?_
  exact b_X2_heirsNamed_32 F  x1 0 H locs ls hP hD hS (lv_sub hl [0, 1] rfl) hf

set_option maxHeartbeats 4000000 in
set_option maxRecDepth 100000 in
theorem k_X2_heirsNamed (l : Launch) {D : va_G} {cI cB : ClassId} {kK kV : Nat → Nat} (ad_t : Nat → Nat) (t_codes : Nat → Int32) (t_letters : Int32)  {rr : Int32}  (hf : f_X2_heirsNamed t_codes t_letters = some rr) : Ct l yX2_heirsNamed wsX2_heirsNamed rm_X2_heirsNamed D cI cB kK kV [.ref (ad_t 0)] (w_X2 cI cB ad_t t_codes t_letters) (w_X2 cI cB ad_t t_codes t_letters) (some (.int rr)) := by
  refine Ct.of (cc := cX2_heirsNamed) (maxL := 3) (ret := (some .int)) (by decide) rfl (Nat.le_of_ble_eq_true rfl) rfl ?_
  intro p e s m below meth c A ls F hP hD hS hl
  have hl : lv_has ls 3 [(0, .ref (ad_t 0))] := hl
  obtain ⟨hx, hb, hml, hown, hts, hrt, hlocks, hK, hA, hZ⟩ := id F
  obtain ⟨H, hH⟩ : ∃ H, H = s.heap := ⟨_, rfl⟩
  obtain ⟨locs, hLo⟩ : ∃ q : List Loc, q = [] := ⟨_, rfl⟩
  refine (?_ : W p l e rm_X2_heirsNamed s m _ below meth c s.heap [] 0 0 _ _)
  rw [← hH, ← hLo]
  rw [← hH] at hP
  have hS : va_S A s.heap H locs := by rw [hH, hLo]; exact hS
  refine lv_aload_n hx hb dX2_heirsNamed_0 rfl (lv_at hl 0 rfl) ?_
  refine gf F hP in_X2_heirsNamed_X2 0 rfl rfl 1 (by decide) 1 rfl rfl dX2_heirsNamed_1 ?_
  refine lv_iconst (v := 1) hx hb dX2_heirsNamed_4 (by decide) ?_
  refine lv_iadd hx hb dX2_heirsNamed_5 ?_
  refine lv_bipush (v := 6) hx hb dX2_heirsNamed_6 (by decide) ?_
  refine lv_idiv hx hb dX2_heirsNamed_8 (by decide) ?_
  refine lv_istore_n (lv' := [(1, .int ((t_letters + 1) / 6)), (0, .ref (ad_t 0))]) hx hb dX2_heirsNamed_9 rfl hl (by decide) rfl (fun ls hl => ?_)
  refine lv_aload_n hx hb dX2_heirsNamed_10 rfl (lv_at hl 1 rfl) ?_
  refine gf F hP in_X2_heirsNamed_X2 0 rfl rfl 1 (by decide) 1 rfl rfl dX2_heirsNamed_11 ?_
  refine lv_iconst (v := 1) hx hb dX2_heirsNamed_14 (by decide) ?_
  refine lv_iadd hx hb dX2_heirsNamed_15 ?_
  refine lv_bipush (v := 6) hx hb dX2_heirsNamed_16 (by decide) ?_
  refine lv_irem hx hb dX2_heirsNamed_18 (by decide) ?_
  refine lv_if_ne (tgt := 31) hx hb dX2_heirsNamed_19 (by decide) (fun c1 => ?_) (fun c1 => ?_)
  · replace hf := (if_neg c1).symm.trans hf
    exact b_X2_heirsNamed_31 F  ((t_letters + 1) / 6) H locs ls hP hD hS (lv_sub hl [1, 0] rfl) hf
  · replace hf := (if_pos c1).symm.trans hf
    refine lv_iload_n hx hb dX2_heirsNamed_22 rfl (lv_at hl 0 rfl) ?_
    refine lv_iconst (v := 2) hx hb dX2_heirsNamed_23 (by decide) ?_
    refine lv_icmp_lt (tgt := 31) hx hb dX2_heirsNamed_24 (by decide) (fun c2 => ?_) (fun c2 => ?_)
    · replace hf := (if_pos c2).symm.trans hf
      exact b_X2_heirsNamed_31 F  ((t_letters + 1) / 6) H locs ls hP hD hS (lv_sub hl [1, 0] rfl) hf
    · replace hf := (if_neg c2).symm.trans hf
      refine lv_iconst (v := 1) hx hb dX2_heirsNamed_27 (by decide) ?_
      refine lv_goto (tgt := 32) hx hb dX2_heirsNamed_28 (by decide) ?_
      exact b_X2_heirsNamed_32 F  ((t_letters + 1) / 6) 1 H locs ls hP hD hS (lv_sub hl [1, 0] rfl) hf

/-! X2_kindOf -/
def rm_X2_kindOf : Room := { frames := 5, cells := 0, slots := 0, locals := 111 }
theorem in_X2_kindOf_X2 : ∀ w ∈ u_ws RX2 TX2 2, w ∈ wsX2_kindOf := fun _ h => List.mem_cons_of_mem _ (List.mem_append_left _ (List.mem_append_right _ (h)))
theorem nd_X2_kindOf : yX2_kindOf.cls = RX2 ∧ yX2_kindOf.cls ≠ "java/lang/invoke/MethodHandle" ∧ yX2_kindOf.cls ≠ "java/lang/invoke/VarHandle" ∧ (parseMethodDescriptor yX2_kindOf.desc).map (fun d => d.parameters.length) = some 1 := by decide +kernel
def f_X2_kindOf (t_codes : Nat → Int32) (x1 : Int32) : Option (Int32) := (f_X3_get 25 t_codes (x1 * 6)).bind (fun v1 => (f_X2_kindCalled v1).bind (fun v3 => some v3))
set_option maxHeartbeats 4000000 in
set_option maxRecDepth 100000 in
theorem k_X2_kindOf (l : Launch) {D : va_G} {cI cB : ClassId} {kK kV : Nat → Nat} (ad_t : Nat → Nat) (t_codes : Nat → Int32) (t_letters : Int32) (x1 : Int32) {rr : Int32}  (hf : f_X2_kindOf t_codes x1 = some rr) : Ct l yX2_kindOf wsX2_kindOf rm_X2_kindOf D cI cB kK kV [.ref (ad_t 0), .int x1] (w_X2 cI cB ad_t t_codes t_letters) (w_X2 cI cB ad_t t_codes t_letters) (some (.int rr)) := by
  refine Ct.of (cc := cX2_kindOf) (maxL := 2) (ret := (some .int)) (by decide) rfl (Nat.le_of_ble_eq_true rfl) rfl ?_
  intro p e s m below meth c A ls F hP hD hS hl
  have hl : lv_has ls 2 [(0, .ref (ad_t 0)), (1, .int x1)] := hl
  obtain ⟨hx, hb, hml, hown, hts, hrt, hlocks, hK, hA, hZ⟩ := id F
  obtain ⟨H, hH⟩ : ∃ H, H = s.heap := ⟨_, rfl⟩
  obtain ⟨locs, hLo⟩ : ∃ q : List Loc, q = [] := ⟨_, rfl⟩
  refine (?_ : W p l e rm_X2_kindOf s m _ below meth c s.heap [] 0 0 _ _)
  rw [← hH, ← hLo]
  rw [← hH] at hP
  have hS : va_S A s.heap H locs := by rw [hH, hLo]; exact hS
  refine lv_aload_n hx hb dX2_kindOf_0 rfl (lv_at hl 0 rfl) ?_
  refine gf F hP in_X2_kindOf_X2 0 rfl rfl 0 (by decide) 1 rfl rfl dX2_kindOf_1 ?_
  refine lv_iload_n hx hb dX2_kindOf_4 rfl (lv_at hl 1 rfl) ?_
  refine lv_bipush (v := 6) hx hb dX2_kindOf_5 (by decide) ?_
  refine lv_imul hx hb dX2_kindOf_7 ?_
  obtain ⟨v1, e2, hf⟩ := bnd hf
  refine cV F hP hD hS (k_X3_get l (sh ad_t 1) 25 t_codes (x1 * 6) e2) gX2_kindOf_X3_get rfl ⟨rfl, rfl⟩ nd_X3_get ⟨Nat.le_of_ble_eq_true rfl, Nat.le_of_ble_eq_true rfl⟩ 1 3 rfl rfl rfl hl.1 rfl (Nat.le_of_ble_eq_true rfl) dX2_kindOf_8 (pm1 (ws := (w_X2 cI cB ad_t t_codes t_letters)) (X := List.take 1 (w_X2 cI cB ad_t t_codes t_letters)) (Y := List.drop 3 (w_X2 cI cB ad_t t_codes t_letters)) rfl) (pm1 (ws := (w_X2 cI cB ad_t t_codes t_letters)) (X := List.take 1 (w_X2 cI cB ad_t t_codes t_letters)) (Y := List.drop 3 (w_X2 cI cB ad_t t_codes t_letters)) rfl) (fun H locs hP hD hS => ?_)
  obtain ⟨v3, e4, hf⟩ := bnd hf
  refine cS F hP hD hS (k_X2_kindCalled l  v1 e4) gX2_kindOf_X2_kindCalled rfl ⟨rfl, rfl⟩ nd_X2_kindCalled ⟨Nat.le_of_ble_eq_true rfl, Nat.le_of_ble_eq_true rfl⟩ rfl hl.1 rfl (Nat.le_of_ble_eq_true rfl) dX2_kindOf_11 (pmE (w_X2 cI cB ad_t t_codes t_letters)) (pmE (w_X2 cI cB ad_t t_codes t_letters)) (fun H locs hP hD hS => ?_)
  replace hf : (some v3 : Option (Int32)) = some rr := hf
  cases hf
  exact ret_i F hP hS dX2_kindOf_14

/-! X2_digitOf -/
def rm_X2_digitOf : Room := { frames := 1, cells := 0, slots := 0, locals := 21 }
theorem in_X2_digitOf_X2 : ∀ w ∈ u_ws RX2 TX2 2, w ∈ wsX2_digitOf := fun _ h => List.mem_cons_of_mem _ (List.mem_append_left _ (List.mem_append_right _ (h)))
theorem nd_X2_digitOf : yX2_digitOf.cls = RX2 ∧ yX2_digitOf.cls ≠ "java/lang/invoke/MethodHandle" ∧ yX2_digitOf.cls ≠ "java/lang/invoke/VarHandle" ∧ (parseMethodDescriptor yX2_digitOf.desc).map (fun d => d.parameters.length) = some 2 := by decide +kernel
def f_X2_digitOf (t_codes : Nat → Int32) (x1 : Int32) (x2 : Int32) : Option (Int32) := (f_X3_get 25 t_codes (((x1 * 6) + 1) + x2)).bind (fun v1 => some (v1 - 48))
set_option maxHeartbeats 4000000 in
set_option maxRecDepth 100000 in
theorem k_X2_digitOf (l : Launch) {D : va_G} {cI cB : ClassId} {kK kV : Nat → Nat} (ad_t : Nat → Nat) (t_codes : Nat → Int32) (t_letters : Int32) (x1 : Int32) (x2 : Int32) {rr : Int32}  (hf : f_X2_digitOf t_codes x1 x2 = some rr) : Ct l yX2_digitOf wsX2_digitOf rm_X2_digitOf D cI cB kK kV [.ref (ad_t 0), .int x1, .int x2] (w_X2 cI cB ad_t t_codes t_letters) (w_X2 cI cB ad_t t_codes t_letters) (some (.int rr)) := by
  refine Ct.of (cc := cX2_digitOf) (maxL := 3) (ret := (some .int)) (by decide) rfl (Nat.le_of_ble_eq_true rfl) rfl ?_
  intro p e s m below meth c A ls F hP hD hS hl
  have hl : lv_has ls 3 [(0, .ref (ad_t 0)), (1, .int x1), (2, .int x2)] := hl
  obtain ⟨hx, hb, hml, hown, hts, hrt, hlocks, hK, hA, hZ⟩ := id F
  obtain ⟨H, hH⟩ : ∃ H, H = s.heap := ⟨_, rfl⟩
  obtain ⟨locs, hLo⟩ : ∃ q : List Loc, q = [] := ⟨_, rfl⟩
  refine (?_ : W p l e rm_X2_digitOf s m _ below meth c s.heap [] 0 0 _ _)
  rw [← hH, ← hLo]
  rw [← hH] at hP
  have hS : va_S A s.heap H locs := by rw [hH, hLo]; exact hS
  refine lv_aload_n hx hb dX2_digitOf_0 rfl (lv_at hl 0 rfl) ?_
  refine gf F hP in_X2_digitOf_X2 0 rfl rfl 0 (by decide) 1 rfl rfl dX2_digitOf_1 ?_
  refine lv_iload_n hx hb dX2_digitOf_4 rfl (lv_at hl 1 rfl) ?_
  refine lv_bipush (v := 6) hx hb dX2_digitOf_5 (by decide) ?_
  refine lv_imul hx hb dX2_digitOf_7 ?_
  refine lv_iconst (v := 1) hx hb dX2_digitOf_8 (by decide) ?_
  refine lv_iadd hx hb dX2_digitOf_9 ?_
  refine lv_iload_n hx hb dX2_digitOf_10 rfl (lv_at hl 2 rfl) ?_
  refine lv_iadd hx hb dX2_digitOf_11 ?_
  obtain ⟨v1, e2, hf⟩ := bnd hf
  refine cV F hP hD hS (k_X3_get l (sh ad_t 1) 25 t_codes (((x1 * 6) + 1) + x2) e2) gX2_digitOf_X3_get rfl ⟨rfl, rfl⟩ nd_X3_get ⟨Nat.le_of_ble_eq_true rfl, Nat.le_of_ble_eq_true rfl⟩ 1 3 rfl rfl rfl hl.1 rfl (Nat.le_of_ble_eq_true rfl) dX2_digitOf_12 (pm1 (ws := (w_X2 cI cB ad_t t_codes t_letters)) (X := List.take 1 (w_X2 cI cB ad_t t_codes t_letters)) (Y := List.drop 3 (w_X2 cI cB ad_t t_codes t_letters)) rfl) (pm1 (ws := (w_X2 cI cB ad_t t_codes t_letters)) (X := List.take 1 (w_X2 cI cB ad_t t_codes t_letters)) (Y := List.drop 3 (w_X2 cI cB ad_t t_codes t_letters)) rfl) (fun H locs hP hD hS => ?_)
  refine lv_bipush (v := 48) hx hb dX2_digitOf_15 (by decide) ?_
  refine lv_isub hx hb dX2_digitOf_17 ?_
  replace hf : (some (v1 - 48) : Option (Int32)) = some rr := hf
  cases hf
  exact ret_i F hP hS dX2_digitOf_18

