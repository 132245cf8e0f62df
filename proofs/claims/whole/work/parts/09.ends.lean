/-! X0_reach -/
def rm_X0_reach : Room := { frames := 1, cells := 0, slots := 0, locals := 22 }
theorem in_X0_reach_X0 : ∀ w ∈ u_ws RX0 TX0 7, w ∈ wsX0_reach := fun _ h => List.mem_cons_of_mem _ (List.mem_append_left _ (List.mem_append_right _ (h)))
theorem nd_X0_reach : yX0_reach.cls = RX0 ∧ yX0_reach.cls ≠ "java/lang/invoke/MethodHandle" ∧ yX0_reach.cls ≠ "java/lang/invoke/VarHandle" ∧ (parseMethodDescriptor yX0_reach.desc).map (fun d => d.parameters.length) = some 2 := by decide +kernel
def f_X0_reach_35   (x1 : Int32) (x2 : Int32) (t_lies : Nat → Int32) (t_steps : Nat → Int32) (t_reached : Int32) : Option ((Nat → Int32) × (Nat → Int32) × Int32) := (f_X3_set 24 t_lies t_reached x1).bind (fun g1 => (f_X3_set 24 t_steps t_reached x2).bind (fun g3 => some (g1, g3, (t_reached + 1))))
def f_X0_reach_2   : Nat → Int32 → Int32 → Int32 → (Nat → Int32) → (Nat → Int32) → Int32 → Option ((Nat → Int32) × (Nat → Int32) × Int32)
  | 0, _, _, _, _, _, _ => none
  | n + 1, x1, x2, x3, t_lies, t_steps, t_reached => (if 24 ≤ x3 then f_X0_reach_35 x1 x2 t_lies t_steps t_reached else (if t_reached ≤ x3 then f_X0_reach_35 x1 x2 t_lies t_steps t_reached else (f_X3_get 24 t_lies x3).bind (fun v3 => (if v3 = x1 then some (t_lies, t_steps, t_reached) else f_X0_reach_2   n x1 x2 (x3 + 1) t_lies t_steps t_reached))))
def f_X0_reach (t_lies : Nat → Int32) (t_steps : Nat → Int32) (t_reached : Int32) (x1 : Int32) (x2 : Int32) : Option ((Nat → Int32) × (Nat → Int32) × Int32) := f_X0_reach_2 300 x1 x2 0 t_lies t_steps t_reached
set_option maxHeartbeats 4000000 in
set_option maxRecDepth 100000 in
theorem b_X0_reach_35 {p : Program} {l : Launch} {e : Env} {s : State} {m : MethodId} {args : Array Value} {below : List Frame} {meth : Method} {c : Code} {D : va_G} {cI cB : ClassId} {kK kV : Nat → Nat} {A : Nat → Prop} (F : Fx p m c s meth args cX0_reach 4 RX0 wsX0_reach none D cI cB kK kV A) {ad_t : Nat → Nat} {t_number : Int32} {t_greatest : Int32} {t_least : Int32} {t_fewest : Int32}  {g_t_lies : Nat → Int32} {g_t_steps : Nat → Int32} {g_t_reached : Int32} : ∀ (x1 : Int32) (x2 : Int32) (t_lies : Nat → Int32) (t_steps : Nat → Int32) (t_reached : Int32) (H : Heap) (locs : List Loc) (ls : Array Slot), va_P D vwCl (w_X0 cI cB ad_t t_lies t_steps t_reached t_number t_greatest t_least t_fewest) H → va_D A (w_X0 cI cB ad_t t_lies t_steps t_reached t_number t_greatest t_least t_fewest) → va_S A s.heap H locs → lv_has ls 4 [(0, .ref (ad_t 0)), (1, .int x1), (2, .int x2)] → f_X0_reach_35   x1 x2 t_lies t_steps t_reached = some (g_t_lies, g_t_steps, g_t_reached) → W p l e rm_X0_reach s m args below meth c H locs 0 0 (Zq D below args s A (w_X0 cI cB ad_t g_t_lies g_t_steps g_t_reached t_number t_greatest t_least t_fewest) none) (F0 m 35 ls []) := by
  obtain ⟨hx, hb, hml, hown, hts, hrt, hlocks, hK, hA, hZ⟩ := id F
  intro x1 x2 t_lies t_steps t_reached H locs ls hP hD hS hl hf
  refine lv_aload_n hx hb dX0_reach_35 rfl (lv_at hl 0 rfl) ?_
  refine gf F hP in_X0_reach_X0 0 rfl rfl 0 (by decide) 2 rfl rfl dX0_reach_36 ?_
  refine lv_aload_n hx hb dX0_reach_39 rfl (lv_at hl 0 rfl) ?_
  refine gf F hP in_X0_reach_X0 0 rfl rfl 2 (by decide) 1 rfl rfl dX0_reach_40 ?_
  refine lv_iload_n hx hb dX0_reach_43 rfl (lv_at hl 1 rfl) ?_
  obtain ⟨g1, e2, hf⟩ := bnd hf
  refine cV F hP hD hS (k_X3_set l (sh ad_t 1) 24 t_lies t_reached x1 e2) gX0_reach_X3_set rfl ⟨rfl, rfl⟩ nd_X3_set ⟨Nat.le_of_ble_eq_true rfl, Nat.le_of_ble_eq_true rfl⟩ 1 3 rfl rfl rfl hl.1 rfl (Nat.le_of_ble_eq_true rfl) dX0_reach_44 (pm1 (ws := (w_X0 cI cB ad_t t_lies t_steps t_reached t_number t_greatest t_least t_fewest)) (X := List.take 1 (w_X0 cI cB ad_t t_lies t_steps t_reached t_number t_greatest t_least t_fewest)) (Y := List.drop 3 (w_X0 cI cB ad_t t_lies t_steps t_reached t_number t_greatest t_least t_fewest)) rfl) (pm1 (ws := (w_X0 cI cB ad_t g1 t_steps t_reached t_number t_greatest t_least t_fewest)) (X := List.take 1 (w_X0 cI cB ad_t t_lies t_steps t_reached t_number t_greatest t_least t_fewest)) (Y := List.drop 3 (w_X0 cI cB ad_t t_lies t_steps t_reached t_number t_greatest t_least t_fewest)) rfl) (fun H locs hP hD hS => ?_)
  refine lv_aload_n hx hb dX0_reach_47 rfl (lv_at hl 0 rfl) ?_
  refine gf F hP in_X0_reach_X0 0 rfl rfl 1 (by decide) 3 rfl rfl dX0_reach_48 ?_
  refine lv_aload_n hx hb dX0_reach_51 rfl (lv_at hl 0 rfl) ?_
  refine gf F hP in_X0_reach_X0 0 rfl rfl 2 (by decide) 1 rfl rfl dX0_reach_52 ?_
  refine lv_iload_n hx hb dX0_reach_55 rfl (lv_at hl 2 rfl) ?_
  obtain ⟨g3, e4, hf⟩ := bnd hf
  refine cV F hP hD hS (k_X3_set l (sh ad_t 3) 24 t_steps t_reached x2 e4) gX0_reach_X3_set rfl ⟨rfl, rfl⟩ nd_X3_set ⟨Nat.le_of_ble_eq_true rfl, Nat.le_of_ble_eq_true rfl⟩ 3 3 rfl rfl rfl hl.1 rfl (Nat.le_of_ble_eq_true rfl) dX0_reach_56 (pm1 (ws := (w_X0 cI cB ad_t g1 t_steps t_reached t_number t_greatest t_least t_fewest)) (X := List.take 3 (w_X0 cI cB ad_t g1 t_steps t_reached t_number t_greatest t_least t_fewest)) (Y := List.drop 5 (w_X0 cI cB ad_t g1 t_steps t_reached t_number t_greatest t_least t_fewest)) rfl) (pm1 (ws := (w_X0 cI cB ad_t g1 g3 t_reached t_number t_greatest t_least t_fewest)) (X := List.take 3 (w_X0 cI cB ad_t g1 t_steps t_reached t_number t_greatest t_least t_fewest)) (Y := List.drop 5 (w_X0 cI cB ad_t g1 t_steps t_reached t_number t_greatest t_least t_fewest)) rfl) (fun H locs hP hD hS => ?_)
  refine lv_aload_n hx hb dX0_reach_59 rfl (lv_at hl 0 rfl) ?_
  refine lv_dup hx hb dX0_reach_60 rfl ?_
  refine gf F hP in_X0_reach_X0 0 rfl rfl 2 (by decide) 1 rfl rfl dX0_reach_61 ?_
  refine lv_iconst (v := 1) hx hb dX0_reach_64 (by decide) ?_
  refine lv_iadd hx hb dX0_reach_65 ?_
  refine pf F hP hD hS in_X0_reach_X0 tyX0 tyX0_ok nmX0 0 rfl rfl 2 (by decide) 1 rfl rfl rfl rfl (Nat.le_of_ble_eq_true rfl) dX0_reach_66 (w_X0 cI cB ad_t g1 g3 (t_reached + 1) t_number t_greatest t_least t_fewest) rfl (fun H locs hP hD hS => ?_)
  replace hf : (some (g1, g3, (t_reached + 1)) : Option ((Nat → Int32) × (Nat → Int32) × Int32)) = some (g_t_lies, g_t_steps, g_t_reached) := hf
  cases hf
  exact ret_v F hP hS dX0_reach_69

set_option maxHeartbeats 4000000 in
set_option maxRecDepth 100000 in
theorem b_X0_reach_2 {p : Program} {l : Launch} {e : Env} {s : State} {m : MethodId} {args : Array Value} {below : List Frame} {meth : Method} {c : Code} {D : va_G} {cI cB : ClassId} {kK kV : Nat → Nat} {A : Nat → Prop} (F : Fx p m c s meth args cX0_reach 4 RX0 wsX0_reach none D cI cB kK kV A) {ad_t : Nat → Nat} {t_number : Int32} {t_greatest : Int32} {t_least : Int32} {t_fewest : Int32}  {g_t_lies : Nat → Int32} {g_t_steps : Nat → Int32} {g_t_reached : Int32} : ∀ (n : Nat), ∀ (x1 : Int32) (x2 : Int32) (x3 : Int32) (t_lies : Nat → Int32) (t_steps : Nat → Int32) (t_reached : Int32) (H : Heap) (locs : List Loc) (ls : Array Slot), va_P D vwCl (w_X0 cI cB ad_t t_lies t_steps t_reached t_number t_greatest t_least t_fewest) H → va_D A (w_X0 cI cB ad_t t_lies t_steps t_reached t_number t_greatest t_least t_fewest) → va_S A s.heap H locs → lv_has ls 4 [(0, .ref (ad_t 0)), (1, .int x1), (2, .int x2), (3, .int x3)] → f_X0_reach_2   n x1 x2 x3 t_lies t_steps t_reached = some (g_t_lies, g_t_steps, g_t_reached) → W p l e rm_X0_reach s m args below meth c H locs 0 0 (Zq D below args s A (w_X0 cI cB ad_t g_t_lies g_t_steps g_t_reached t_number t_greatest t_least t_fewest) none) (F0 m 2 ls []) := by
  obtain ⟨hx, hb, hml, hown, hts, hrt, hlocks, hK, hA, hZ⟩ := id F
  intro n
  induction n with
  | zero =>
    intro x1 x2 x3 t_lies t_steps t_reached H locs ls hP hD hS hl hf
    cases hf
  | succ n ih =>
    intro x1 x2 x3 t_lies t_steps t_reached H locs ls hP hD hS hl hf
    refine lv_iload_n hx hb dX0_reach_2 rfl (lv_at hl 3 rfl) ?_
    refine lv_bipush (v := 24) hx hb dX0_reach_3 (by decide) ?_
    refine lv_icmp_ge (tgt := 35) hx hb dX0_reach_5 (by decide) (fun c1 => ?_) (fun c1 => ?_)
    · replace hf := (if_pos c1).symm.trans hf
      exact b_X0_reach_35 F  x1 x2 t_lies t_steps t_reached H locs ls hP hD hS (lv_sub hl [0, 1, 2] rfl) hf
    · replace hf := (if_neg c1).symm.trans hf
      refine lv_iload_n hx hb dX0_reach_8 rfl (lv_at hl 3 rfl) ?_
      refine lv_aload_n hx hb dX0_reach_9 rfl (lv_at hl 0 rfl) ?_
      refine gf F hP in_X0_reach_X0 0 rfl rfl 2 (by decide) 1 rfl rfl dX0_reach_10 ?_
      refine lv_icmp_ge (tgt := 35) hx hb dX0_reach_13 (by decide) (fun c2 => ?_) (fun c2 => ?_)
      · replace hf := (if_pos c2).symm.trans hf
        exact b_X0_reach_35 F  x1 x2 t_lies t_steps t_reached H locs ls hP hD hS (lv_sub hl [0, 1, 2] rfl) hf
      · replace hf := (if_neg c2).symm.trans hf
        refine lv_aload_n hx hb dX0_reach_16 rfl (lv_at hl 0 rfl) ?_
        refine gf F hP in_X0_reach_X0 0 rfl rfl 0 (by decide) 2 rfl rfl dX0_reach_17 ?_
        refine lv_iload_n hx hb dX0_reach_20 rfl (lv_at hl 3 rfl) ?_
        obtain ⟨v3, e4, hf⟩ := bnd hf
        refine cV F hP hD hS (k_X3_get l (sh ad_t 1) 24 t_lies x3 e4) gX0_reach_X3_get rfl ⟨rfl, rfl⟩ nd_X3_get ⟨Nat.le_of_ble_eq_true rfl, Nat.le_of_ble_eq_true rfl⟩ 1 3 rfl rfl rfl hl.1 rfl (Nat.le_of_ble_eq_true rfl) dX0_reach_21 (pm1 (ws := (w_X0 cI cB ad_t t_lies t_steps t_reached t_number t_greatest t_least t_fewest)) (X := List.take 1 (w_X0 cI cB ad_t t_lies t_steps t_reached t_number t_greatest t_least t_fewest)) (Y := List.drop 3 (w_X0 cI cB ad_t t_lies t_steps t_reached t_number t_greatest t_least t_fewest)) rfl) (pm1 (ws := (w_X0 cI cB ad_t t_lies t_steps t_reached t_number t_greatest t_least t_fewest)) (X := List.take 1 (w_X0 cI cB ad_t t_lies t_steps t_reached t_number t_greatest t_least t_fewest)) (Y := List.drop 3 (w_X0 cI cB ad_t t_lies t_steps t_reached t_number t_greatest t_least t_fewest)) rfl) (fun H locs hP hD hS => ?_)
        refine lv_iload_n hx hb dX0_reach_24 rfl (lv_at hl 1 rfl) ?_
        refine lv_icmp_ne (tgt := 29) hx hb dX0_reach_25 (by decide) (fun c5 => ?_) (fun c5 => ?_)
        · replace hf := (if_neg c5).symm.trans hf
          refine lv_iinc (v := (x3 + 1)) (lv' := [(3, .int (x3 + 1)), (0, .ref (ad_t 0)), (1, .int x1), (2, .int x2)]) hx hb dX0_reach_29 hl (k := 3) rfl rfl (by decide) rfl (fun ls hl => ?_)
          refine lv_goto (tgt := 2) hx hb dX0_reach_32 (by decide) ?_
          exact ih x1 x2 (x3 + 1) t_lies t_steps t_reached H locs ls hP hD hS (lv_sub hl [1, 2, 3, 0] rfl) hf
        · replace hf := (if_pos c5).symm.trans hf
          replace hf : (some (t_lies, t_steps, t_reached) : Option ((Nat → Int32) × (Nat → Int32) × Int32)) = some (g_t_lies, g_t_steps, g_t_reached) := hf
          cases hf
          exact ret_v F hP hS dX0_reach_28

set_option maxHeartbeats 4000000 in
set_option maxRecDepth 100000 in
theorem k_X0_reach (l : Launch) {D : va_G} {cI cB : ClassId} {kK kV : Nat → Nat} (ad_t : Nat → Nat) (t_lies : Nat → Int32) (t_steps : Nat → Int32) (t_reached : Int32) (t_number : Int32) (t_greatest : Int32) (t_least : Int32) (t_fewest : Int32) (x1 : Int32) (x2 : Int32)  {g_t_lies : Nat → Int32} {g_t_steps : Nat → Int32} {g_t_reached : Int32} (hf : f_X0_reach t_lies t_steps t_reached x1 x2 = some (g_t_lies, g_t_steps, g_t_reached)) : Ct l yX0_reach wsX0_reach rm_X0_reach D cI cB kK kV [.ref (ad_t 0), .int x1, .int x2] (w_X0 cI cB ad_t t_lies t_steps t_reached t_number t_greatest t_least t_fewest) (w_X0 cI cB ad_t g_t_lies g_t_steps g_t_reached t_number t_greatest t_least t_fewest) none := by
  refine Ct.of (cc := cX0_reach) (maxL := 4) (ret := none) (by decide) rfl (Nat.le_of_ble_eq_true rfl) rfl ?_
  intro p e s m below meth c A ls F hP hD hS hl
  have hl : lv_has ls 4 [(0, .ref (ad_t 0)), (1, .int x1), (2, .int x2)] := hl
  obtain ⟨hx, hb, hml, hown, hts, hrt, hlocks, hK, hA, hZ⟩ := id F
  obtain ⟨H, hH⟩ : ∃ H, H = s.heap := ⟨_, rfl⟩
  obtain ⟨locs, hLo⟩ : ∃ q : List Loc, q = [] := ⟨_, rfl⟩
  refine (?_ : W p l e rm_X0_reach s m _ below meth c s.heap [] 0 0 _ _)
  rw [← hH, ← hLo]
  rw [← hH] at hP
  have hS : va_S A s.heap H locs := by rw [hH, hLo]; exact hS
  refine lv_iconst (v := 0) hx hb dX0_reach_0 (by decide) ?_
  refine lv_istore_n (lv' := [(3, .int 0), (0, .ref (ad_t 0)), (1, .int x1), (2, .int x2)]) hx hb dX0_reach_1 rfl hl (by decide) rfl (fun ls hl => ?_)
  exact b_X0_reach_2 F 300 x1 x2 0 t_lies t_steps t_reached H locs ls hP hD hS (lv_sub hl [1, 2, 3, 0] rfl) hf

/-! X0_noteEnd -/
def rm_X0_noteEnd : Room := { frames := 1, cells := 0, slots := 0, locals := 21 }
theorem in_X0_noteEnd_X0 : ∀ w ∈ u_ws RX0 TX0 7, w ∈ wsX0_noteEnd := fun _ h => List.mem_cons_of_mem _ (List.mem_append_right _ (h))
theorem nd_X0_noteEnd : yX0_noteEnd.cls = RX0 ∧ yX0_noteEnd.cls ≠ "java/lang/invoke/MethodHandle" ∧ yX0_noteEnd.cls ≠ "java/lang/invoke/VarHandle" ∧ (parseMethodDescriptor yX0_noteEnd.desc).map (fun d => d.parameters.length) = some 2 := by decide +kernel
def f_X0_noteEnd_66   (k0 : Int32) (t_number : Int32) (t_greatest : Int32) (t_least : Int32) (t_fewest : Int32) : Option (Int32 × Int32 × Int32 × Int32) := some ((t_number + 1), t_greatest, t_least, k0)
def f_X0_noteEnd_43   (x2 : Int32) (k0 : Int32) (t_number : Int32) (t_greatest : Int32) (t_least : Int32) (t_fewest : Int32) : Option (Int32 × Int32 × Int32 × Int32) := (if t_number = 0 then f_X0_noteEnd_66 x2 t_number t_greatest k0 t_fewest else f_X0_noteEnd_66 (if x2 < t_fewest then x2 else t_fewest) t_number t_greatest k0 t_fewest)
def f_X0_noteEnd_20   (x1 : Int32) (x2 : Int32) (k0 : Int32) (t_number : Int32) (t_greatest : Int32) (t_least : Int32) (t_fewest : Int32) : Option (Int32 × Int32 × Int32 × Int32) := (if t_number = 0 then f_X0_noteEnd_43 x2 x1 t_number k0 t_least t_fewest else f_X0_noteEnd_43 x2 (if x1 < t_least then x1 else t_least) t_number k0 t_least t_fewest)
def f_X0_noteEnd (t_number : Int32) (t_greatest : Int32) (t_least : Int32) (t_fewest : Int32) (x1 : Int32) (x2 : Int32) : Option (Int32 × Int32 × Int32 × Int32) := (if t_number = 0 then f_X0_noteEnd_20 x1 x2 x1 t_number t_greatest t_least t_fewest else f_X0_noteEnd_20 x1 x2 (if t_greatest < x1 then x1 else t_greatest) t_number t_greatest t_least t_fewest)
set_option maxHeartbeats 4000000 in
set_option maxRecDepth 100000 in
theorem b_X0_noteEnd_66 {p : Program} {l : Launch} {e : Env} {s : State} {m : MethodId} {args : Array Value} {below : List Frame} {meth : Method} {c : Code} {D : va_G} {cI cB : ClassId} {kK kV : Nat → Nat} {A : Nat → Prop} (F : Fx p m c s meth args cX0_noteEnd 3 RX0 wsX0_noteEnd none D cI cB kK kV A) {ad_t : Nat → Nat} {t_lies : Nat → Int32} {t_steps : Nat → Int32} {t_reached : Int32}  {g_t_number : Int32} {g_t_greatest : Int32} {g_t_least : Int32} {g_t_fewest : Int32} : ∀ (k0 : Int32) (t_number : Int32) (t_greatest : Int32) (t_least : Int32) (t_fewest : Int32) (H : Heap) (locs : List Loc) (ls : Array Slot), va_P D vwCl (w_X0 cI cB ad_t t_lies t_steps t_reached t_number t_greatest t_least t_fewest) H → va_D A (w_X0 cI cB ad_t t_lies t_steps t_reached t_number t_greatest t_least t_fewest) → va_S A s.heap H locs → lv_has ls 3 [(0, .ref (ad_t 0))] → f_X0_noteEnd_66   k0 t_number t_greatest t_least t_fewest = some (g_t_number, g_t_greatest, g_t_least, g_t_fewest) → W p l e rm_X0_noteEnd s m args below meth c H locs 0 0 (Zq D below args s A (w_X0 cI cB ad_t t_lies t_steps t_reached g_t_number g_t_greatest g_t_least g_t_fewest) none) (F0 m 66 ls [.int k0, .ref (ad_t 0)]) := by
  obtain ⟨hx, hb, hml, hown, hts, hrt, hlocks, hK, hA, hZ⟩ := id F
  intro k0 t_number t_greatest t_least t_fewest H locs ls hP hD hS hl hf
  refine pf F hP hD hS in_X0_noteEnd_X0 tyX0 tyX0_ok nmX0 0 rfl rfl 6 (by decide) 11 rfl rfl rfl rfl (Nat.le_of_ble_eq_true rfl) dX0_noteEnd_66 (w_X0 cI cB ad_t t_lies t_steps t_reached t_number t_greatest t_least k0) rfl (fun H locs hP hD hS => ?_)
  refine lv_aload_n hx hb dX0_noteEnd_69 rfl (lv_at hl 0 rfl) ?_
  refine lv_dup hx hb dX0_noteEnd_70 rfl ?_
  refine gf F hP in_X0_noteEnd_X0 0 rfl rfl 3 (by decide) 1 rfl rfl dX0_noteEnd_71 ?_
  refine lv_iconst (v := 1) hx hb dX0_noteEnd_74 (by decide) ?_
  refine lv_iadd hx hb dX0_noteEnd_75 ?_
  refine pf F hP hD hS in_X0_noteEnd_X0 tyX0 tyX0_ok nmX0 0 rfl rfl 3 (by decide) 1 rfl rfl rfl rfl (Nat.le_of_ble_eq_true rfl) dX0_noteEnd_76 (w_X0 cI cB ad_t t_lies t_steps t_reached (t_number + 1) t_greatest t_least k0) rfl (fun H locs hP hD hS => ?_)
  replace hf : (some ((t_number + 1), t_greatest, t_least, k0) : Option (Int32 × Int32 × Int32 × Int32)) = some (g_t_number, g_t_greatest, g_t_least, g_t_fewest) := hf
  cases hf
  exact ret_v F hP hS dX0_noteEnd_79

set_option maxHeartbeats 4000000 in
set_option maxRecDepth 100000 in
theorem b_X0_noteEnd_43 {p : Program} {l : Launch} {e : Env} {s : State} {m : MethodId} {args : Array Value} {below : List Frame} {meth : Method} {c : Code} {D : va_G} {cI cB : ClassId} {kK kV : Nat → Nat} {A : Nat → Prop} (F : Fx p m c s meth args cX0_noteEnd 3 RX0 wsX0_noteEnd none D cI cB kK kV A) {ad_t : Nat → Nat} {t_lies : Nat → Int32} {t_steps : Nat → Int32} {t_reached : Int32}  {g_t_number : Int32} {g_t_greatest : Int32} {g_t_least : Int32} {g_t_fewest : Int32} : ∀ (x2 : Int32) (k0 : Int32) (t_number : Int32) (t_greatest : Int32) (t_least : Int32) (t_fewest : Int32) (H : Heap) (locs : List Loc) (ls : Array Slot), va_P D vwCl (w_X0 cI cB ad_t t_lies t_steps t_reached t_number t_greatest t_least t_fewest) H → va_D A (w_X0 cI cB ad_t t_lies t_steps t_reached t_number t_greatest t_least t_fewest) → va_S A s.heap H locs → lv_has ls 3 [(0, .ref (ad_t 0)), (2, .int x2)] → f_X0_noteEnd_43   x2 k0 t_number t_greatest t_least t_fewest = some (g_t_number, g_t_greatest, g_t_least, g_t_fewest) → W p l e rm_X0_noteEnd s m args below meth c H locs 0 0 (Zq D below args s A (w_X0 cI cB ad_t t_lies t_steps t_reached g_t_number g_t_greatest g_t_least g_t_fewest) none) (F0 m 43 ls [.int k0, .ref (ad_t 0)]) := by
  obtain ⟨hx, hb, hml, hown, hts, hrt, hlocks, hK, hA, hZ⟩ := id F
  intro x2 k0 t_number t_greatest t_least t_fewest H locs ls hP hD hS hl hf
  refine pf F hP hD hS in_X0_noteEnd_X0 tyX0 tyX0_ok nmX0 0 rfl rfl 5 (by decide) 7 rfl rfl rfl rfl (Nat.le_of_ble_eq_true rfl) dX0_noteEnd_43 (w_X0 cI cB ad_t t_lies t_steps t_reached t_number t_greatest k0 t_fewest) rfl (fun H locs hP hD hS => ?_)
  refine lv_aload_n hx hb dX0_noteEnd_46 rfl (lv_at hl 0 rfl) ?_
  refine lv_aload_n hx hb dX0_noteEnd_47 rfl (lv_at hl 0 rfl) ?_
  refine gf F hP in_X0_noteEnd_X0 0 rfl rfl 3 (by decide) 1 rfl rfl dX0_noteEnd_48 ?_
  refine lv_if_ne (tgt := 58) hx hb dX0_noteEnd_51 (by decide) (fun c1 => ?_) (fun c1 => ?_)
  · replace hf := (if_neg c1).symm.trans hf
    refine lv_aload_n hx hb dX0_noteEnd_58 rfl (lv_at hl 0 rfl) ?_
    refine gf F hP in_X0_noteEnd_X0 0 rfl rfl 6 (by decide) 11 rfl rfl dX0_noteEnd_59 ?_
    refine lv_iload_n hx hb dX0_noteEnd_62 rfl (lv_at hl 1 rfl) ?_
    refine va_mmin hx hb (hml.trans hl.1.symm) hown (hts _ (List.mem_of_getElem? (i := 8) rfl)) (hts _ (List.mem_of_getElem? (i := 9) rfl)) (hts _ (List.mem_of_getElem? (i := 5) rfl)) (hts _ (List.mem_of_getElem? (i := 10) rfl)) (Nat.le_of_ble_eq_true rfl) (Nat.le_of_ble_eq_true rfl) (Nat.zero_le _) (Nat.zero_le _) dX0_noteEnd_63 ?_
    exact b_X0_noteEnd_66 F  (if x2 < t_fewest then x2 else t_fewest) t_number t_greatest k0 t_fewest H locs ls hP hD hS (lv_sub hl [0] rfl) hf
  · replace hf := (if_pos c1).symm.trans hf
    refine lv_iload_n hx hb dX0_noteEnd_54 rfl (lv_at hl 1 rfl) ?_
    refine lv_goto (tgt := 66) hx hb dX0_noteEnd_55 (by decide) ?_
    exact b_X0_noteEnd_66 F  x2 t_number t_greatest k0 t_fewest H locs ls hP hD hS (lv_sub hl [0] rfl) hf

set_option maxHeartbeats 4000000 in
set_option maxRecDepth 100000 in
theorem b_X0_noteEnd_20 {p : Program} {l : Launch} {e : Env} {s : State} {m : MethodId} {args : Array Value} {below : List Frame} {meth : Method} {c : Code} {D : va_G} {cI cB : ClassId} {kK kV : Nat → Nat} {A : Nat → Prop} (F : Fx p m c s meth args cX0_noteEnd 3 RX0 wsX0_noteEnd none D cI cB kK kV A) {ad_t : Nat → Nat} {t_lies : Nat → Int32} {t_steps : Nat → Int32} {t_reached : Int32}  {g_t_number : Int32} {g_t_greatest : Int32} {g_t_least : Int32} {g_t_fewest : Int32} : ∀ (x1 : Int32) (x2 : Int32) (k0 : Int32) (t_number : Int32) (t_greatest : Int32) (t_least : Int32) (t_fewest : Int32) (H : Heap) (locs : List Loc) (ls : Array Slot), va_P D vwCl (w_X0 cI cB ad_t t_lies t_steps t_reached t_number t_greatest t_least t_fewest) H → va_D A (w_X0 cI cB ad_t t_lies t_steps t_reached t_number t_greatest t_least t_fewest) → va_S A s.heap H locs → lv_has ls 3 [(0, .ref (ad_t 0)), (1, .int x1), (2, .int x2)] → f_X0_noteEnd_20   x1 x2 k0 t_number t_greatest t_least t_fewest = some (g_t_number, g_t_greatest, g_t_least, g_t_fewest) → W p l e rm_X0_noteEnd s m args below meth c H locs 0 0 (Zq D below args s A (w_X0 cI cB ad_t t_lies t_steps t_reached g_t_number g_t_greatest g_t_least g_t_fewest) none) (F0 m 20 ls [.int k0, .ref (ad_t 0)]) := by
  obtain ⟨hx, hb, hml, hown, hts, hrt, hlocks, hK, hA, hZ⟩ := id F
  intro x1 x2 k0 t_number t_greatest t_least t_fewest H locs ls hP hD hS hl hf
  refine pf F hP hD hS in_X0_noteEnd_X0 tyX0 tyX0_ok nmX0 0 rfl rfl 4 (by decide) 2 rfl rfl rfl rfl (Nat.le_of_ble_eq_true rfl) dX0_noteEnd_20 (w_X0 cI cB ad_t t_lies t_steps t_reached t_number k0 t_least t_fewest) rfl (fun H locs hP hD hS => ?_)
  refine lv_aload_n hx hb dX0_noteEnd_23 rfl (lv_at hl 0 rfl) ?_
  refine lv_aload_n hx hb dX0_noteEnd_24 rfl (lv_at hl 0 rfl) ?_
  refine gf F hP in_X0_noteEnd_X0 0 rfl rfl 3 (by decide) 1 rfl rfl dX0_noteEnd_25 ?_
  refine lv_if_ne (tgt := 35) hx hb dX0_noteEnd_28 (by decide) (fun c1 => ?_) (fun c1 => ?_)
  · replace hf := (if_neg c1).symm.trans hf
    refine lv_aload_n hx hb dX0_noteEnd_35 rfl (lv_at hl 0 rfl) ?_
    refine gf F hP in_X0_noteEnd_X0 0 rfl rfl 5 (by decide) 7 rfl rfl dX0_noteEnd_36 ?_
    refine lv_iload_n hx hb dX0_noteEnd_39 rfl (lv_at hl 1 rfl) ?_
    refine va_mmin hx hb (hml.trans hl.1.symm) hown (hts _ (List.mem_of_getElem? (i := 8) rfl)) (hts _ (List.mem_of_getElem? (i := 9) rfl)) (hts _ (List.mem_of_getElem? (i := 5) rfl)) (hts _ (List.mem_of_getElem? (i := 10) rfl)) (Nat.le_of_ble_eq_true rfl) (Nat.le_of_ble_eq_true rfl) (Nat.zero_le _) (Nat.zero_le _) dX0_noteEnd_40 ?_
    exact b_X0_noteEnd_43 F  x2 (if x1 < t_least then x1 else t_least) t_number k0 t_least t_fewest H locs ls hP hD hS (lv_sub hl [0, 2] rfl) hf
  · replace hf := (if_pos c1).symm.trans hf
    refine lv_iload_n hx hb dX0_noteEnd_31 rfl (lv_at hl 1 rfl) ?_
    refine lv_goto (tgt := 43) hx hb dX0_noteEnd_32 (by decide) ?_
    exact b_X0_noteEnd_43 F  x2 x1 t_number k0 t_least t_fewest H locs ls hP hD hS (lv_sub hl [0, 2] rfl) hf

set_option maxHeartbeats 4000000 in
set_option maxRecDepth 100000 in
theorem k_X0_noteEnd (l : Launch) {D : va_G} {cI cB : ClassId} {kK kV : Nat → Nat} (ad_t : Nat → Nat) (t_lies : Nat → Int32) (t_steps : Nat → Int32) (t_reached : Int32) (t_number : Int32) (t_greatest : Int32) (t_least : Int32) (t_fewest : Int32) (x1 : Int32) (x2 : Int32)  {g_t_number : Int32} {g_t_greatest : Int32} {g_t_least : Int32} {g_t_fewest : Int32} (hf : f_X0_noteEnd t_number t_greatest t_least t_fewest x1 x2 = some (g_t_number, g_t_greatest, g_t_least, g_t_fewest)) : Ct l yX0_noteEnd wsX0_noteEnd rm_X0_noteEnd D cI cB kK kV [.ref (ad_t 0), .int x1, .int x2] (w_X0 cI cB ad_t t_lies t_steps t_reached t_number t_greatest t_least t_fewest) (w_X0 cI cB ad_t t_lies t_steps t_reached g_t_number g_t_greatest g_t_least g_t_fewest) none := by
  refine Ct.of (cc := cX0_noteEnd) (maxL := 3) (ret := none) (by decide) rfl (Nat.le_of_ble_eq_true rfl) rfl ?_
  intro p e s m below meth c A ls F hP hD hS hl
  have hl : lv_has ls 3 [(0, .ref (ad_t 0)), (1, .int x1), (2, .int x2)] := hl
  obtain ⟨hx, hb, hml, hown, hts, hrt, hlocks, hK, hA, hZ⟩ := id F
  obtain ⟨H, hH⟩ : ∃ H, H = s.heap := ⟨_, rfl⟩
  obtain ⟨locs, hLo⟩ : ∃ q : List Loc, q = [] := ⟨_, rfl⟩
  refine (?_ : W p l e rm_X0_noteEnd s m _ below meth c s.heap [] 0 0 _ _)
  rw [← hH, ← hLo]
  rw [← hH] at hP
  have hS : va_S A s.heap H locs := by rw [hH, hLo]; exact hS
  refine lv_aload_n hx hb dX0_noteEnd_0 rfl (lv_at hl 0 rfl) ?_
  refine lv_aload_n hx hb dX0_noteEnd_1 rfl (lv_at hl 0 rfl) ?_
  refine gf F hP in_X0_noteEnd_X0 0 rfl rfl 3 (by decide) 1 rfl rfl dX0_noteEnd_2 ?_
  refine lv_if_ne (tgt := 12) hx hb dX0_noteEnd_5 (by decide) (fun c1 => ?_) (fun c1 => ?_)
  · replace hf := (if_neg c1).symm.trans hf
    refine lv_aload_n hx hb dX0_noteEnd_12 rfl (lv_at hl 0 rfl) ?_
    refine gf F hP in_X0_noteEnd_X0 0 rfl rfl 4 (by decide) 2 rfl rfl dX0_noteEnd_13 ?_
    refine lv_iload_n hx hb dX0_noteEnd_16 rfl (lv_at hl 1 rfl) ?_
    refine va_mmax hx hb (hml.trans hl.1.symm) hown (hts _ (List.mem_of_getElem? (i := 3) rfl)) (hts _ (List.mem_of_getElem? (i := 4) rfl)) (hts _ (List.mem_of_getElem? (i := 5) rfl)) (hts _ (List.mem_of_getElem? (i := 6) rfl)) (Nat.le_of_ble_eq_true rfl) (Nat.le_of_ble_eq_true rfl) (Nat.zero_le _) (Nat.zero_le _) dX0_noteEnd_17 ?_
    exact b_X0_noteEnd_20 F  x1 x2 (if t_greatest < x1 then x1 else t_greatest) t_number t_greatest t_least t_fewest H locs ls hP hD hS (lv_sub hl [0, 1, 2] rfl) hf
  · replace hf := (if_pos c1).symm.trans hf
    refine lv_iload_n hx hb dX0_noteEnd_8 rfl (lv_at hl 1 rfl) ?_
    refine lv_goto (tgt := 20) hx hb dX0_noteEnd_9 (by decide) ?_
    exact b_X0_noteEnd_20 F  x1 x2 x1 t_number t_greatest t_least t_fewest H locs ls hP hD hS (lv_sub hl [0, 1, 2] rfl) hf

/-! X0_goesOn -/
def rm_X0_goesOn : Room := { frames := 3, cells := 0, slots := 0, locals := 74 }
theorem in_X0_goesOn_X1 : ∀ w ∈ u_ws RX1 TX1 3, w ∈ wsX0_goesOn := fun _ h => List.mem_cons_of_mem _ (List.mem_append_left _ (List.mem_append_left _ (List.mem_append_left _ (List.mem_append_left _ (List.mem_append_right _ (h))))))
theorem nd_X0_goesOn : yX0_goesOn.cls = RX0 ∧ yX0_goesOn.cls ≠ "java/lang/invoke/MethodHandle" ∧ yX0_goesOn.cls ≠ "java/lang/invoke/VarHandle" ∧ (parseMethodDescriptor yX0_goesOn.desc).map (fun d => d.parameters.length) = some 3 := by decide +kernel
def f_X0_goesOn_33 (o_kinds : Nat → Int32) (o_now_worths : Nat → Int32) (o_heirs : Int32) (back_12 : Int32 → Int32 → Int32 → Int32 → (Nat → Int32) → (Nat → Int32) → Int32 → Option (Int32 × (Nat → Int32) × (Nat → Int32) × Int32)) : Nat → Int32 → Int32 → Int32 → Int32 → Int32 → (Nat → Int32) → (Nat → Int32) → Int32 → Option (Int32 × (Nat → Int32) × (Nat → Int32) × Int32)
  | 0, _, _, _, _, _, _, _, _ => none
  | n + 1, x2, x3, x4, x5, x6, t_lies, t_steps, t_reached => (if 4 ≤ x6 then back_12 x2 x3 x4 (x5 + 1) t_lies t_steps t_reached else (if o_heirs ≤ x6 then back_12 x2 x3 x4 (x5 + 1) t_lies t_steps t_reached else (f_X1_mayIn o_kinds o_now_worths o_heirs x2 x5 x6).bind (fun v3 => (if v3 = 3 then (f_X1_changed o_heirs x2 x5 x6).bind (fun v6 => (f_X0_reach t_lies t_steps t_reached v6 x3).bind (fun (g8, g9, g10) => f_X0_goesOn_33 o_kinds o_now_worths o_heirs back_12 n x2 x3 1 x5 (x6 + 1) g8 g9 g10)) else f_X0_goesOn_33 o_kinds o_now_worths o_heirs back_12 n x2 x3 x4 x5 (x6 + 1) t_lies t_steps t_reached))))
def f_X0_goesOn_12 (o_kinds : Nat → Int32) (o_now_worths : Nat → Int32) (o_heirs : Int32)  : Nat → Int32 → Int32 → Int32 → Int32 → (Nat → Int32) → (Nat → Int32) → Int32 → Option (Int32 × (Nat → Int32) × (Nat → Int32) × Int32)
  | 0, _, _, _, _, _, _, _ => none
  | n + 1, x2, x3, x4, x5, t_lies, t_steps, t_reached => (if 4 ≤ x5 then (bz x4).bind (fun b2 => some (b2, t_lies, t_steps, t_reached)) else (if o_heirs ≤ x5 then (bz x4).bind (fun b4 => some (b4, t_lies, t_steps, t_reached)) else f_X0_goesOn_33 o_kinds o_now_worths o_heirs (f_X0_goesOn_12 o_kinds o_now_worths o_heirs  n) 300 x2 x3 x4 x5 (x5 + 1) t_lies t_steps t_reached))
def f_X0_goesOn (t_lies : Nat → Int32) (t_steps : Nat → Int32) (t_reached : Int32) (o_kinds : Nat → Int32) (o_now_worths : Nat → Int32) (o_heirs : Int32) (x2 : Int32) (x3 : Int32) : Option (Int32 × (Nat → Int32) × (Nat → Int32) × Int32) := f_X0_goesOn_12 o_kinds o_now_worths o_heirs 300 x2 x3 0 0 t_lies t_steps t_reached
set_option maxHeartbeats 4000000 in
set_option maxRecDepth 100000 in
theorem b_X0_goesOn_33 {p : Program} {l : Launch} {e : Env} {s : State} {m : MethodId} {args : Array Value} {below : List Frame} {meth : Method} {c : Code} {D : va_G} {cI cB : ClassId} {kK kV : Nat → Nat} {A : Nat → Prop} (F : Fx p m c s meth args cX0_goesOn 7 RX0 wsX0_goesOn (some .boolean) D cI cB kK kV A) {ad_t : Nat → Nat} {ad_o : Nat → Nat} {t_number : Int32} {t_greatest : Int32} {t_least : Int32} {t_fewest : Int32} {o_kinds : Nat → Int32} {o_now_worths : Nat → Int32} {o_now_made : Nat → Int32} {o_now_heardOf : Nat → Int32} {o_now_heardThing : Nat → Int32} {o_now_heardOther : Nat → Int32} {o_now_heardMore : Nat → Int32} {o_now_lie : Int32} {o_now_changes : Int32} {o_now_heard : Int32} {o_heirs : Int32} {rr : Int32} {g_t_lies : Nat → Int32} {g_t_steps : Nat → Int32} {g_t_reached : Int32} (back_12 : Int32 → Int32 → Int32 → Int32 → (Nat → Int32) → (Nat → Int32) → Int32 → Option (Int32 × (Nat → Int32) × (Nat → Int32) × Int32)) (hb_12 : ∀ (x2 : Int32) (x3 : Int32) (x4 : Int32) (x5 : Int32) (t_lies : Nat → Int32) (t_steps : Nat → Int32) (t_reached : Int32) (H : Heap) (locs : List Loc) (ls : Array Slot), va_P D vwCl (w_X0 cI cB ad_t t_lies t_steps t_reached t_number t_greatest t_least t_fewest ++ w_X1 cI cB ad_o o_kinds o_now_worths o_now_made o_now_heardOf o_now_heardThing o_now_heardOther o_now_heardMore o_now_lie o_now_changes o_now_heard o_heirs) H → va_D A (w_X0 cI cB ad_t t_lies t_steps t_reached t_number t_greatest t_least t_fewest ++ w_X1 cI cB ad_o o_kinds o_now_worths o_now_made o_now_heardOf o_now_heardThing o_now_heardOther o_now_heardMore o_now_lie o_now_changes o_now_heard o_heirs) → va_S A s.heap H locs → lv_has ls 7 [(0, .ref (ad_t 0)), (1, .ref (ad_o 0)), (2, .int x2), (3, .int x3), (4, .int x4), (5, .int x5)] → back_12 x2 x3 x4 x5 t_lies t_steps t_reached = some (rr, g_t_lies, g_t_steps, g_t_reached) → W p l e rm_X0_goesOn s m args below meth c H locs 0 0 (Zq D below args s A (w_X0 cI cB ad_t g_t_lies g_t_steps g_t_reached t_number t_greatest t_least t_fewest ++ w_X1 cI cB ad_o o_kinds o_now_worths o_now_made o_now_heardOf o_now_heardThing o_now_heardOther o_now_heardMore o_now_lie o_now_changes o_now_heard o_heirs) (some (.int rr))) (F0 m 12 ls [])) : ∀ (n : Nat), ∀ (x2 : Int32) (x3 : Int32) (x4 : Int32) (x5 : Int32) (x6 : Int32) (t_lies : Nat → Int32) (t_steps : Nat → Int32) (t_reached : Int32) (H : Heap) (locs : List Loc) (ls : Array Slot), va_P D vwCl (w_X0 cI cB ad_t t_lies t_steps t_reached t_number t_greatest t_least t_fewest ++ w_X1 cI cB ad_o o_kinds o_now_worths o_now_made o_now_heardOf o_now_heardThing o_now_heardOther o_now_heardMore o_now_lie o_now_changes o_now_heard o_heirs) H → va_D A (w_X0 cI cB ad_t t_lies t_steps t_reached t_number t_greatest t_least t_fewest ++ w_X1 cI cB ad_o o_kinds o_now_worths o_now_made o_now_heardOf o_now_heardThing o_now_heardOther o_now_heardMore o_now_lie o_now_changes o_now_heard o_heirs) → va_S A s.heap H locs → lv_has ls 7 [(0, .ref (ad_t 0)), (1, .ref (ad_o 0)), (2, .int x2), (3, .int x3), (4, .int x4), (5, .int x5), (6, .int x6)] → f_X0_goesOn_33 o_kinds o_now_worths o_heirs back_12 n x2 x3 x4 x5 x6 t_lies t_steps t_reached = some (rr, g_t_lies, g_t_steps, g_t_reached) → W p l e rm_X0_goesOn s m args below meth c H locs 0 0 (Zq D below args s A (w_X0 cI cB ad_t g_t_lies g_t_steps g_t_reached t_number t_greatest t_least t_fewest ++ w_X1 cI cB ad_o o_kinds o_now_worths o_now_made o_now_heardOf o_now_heardThing o_now_heardOther o_now_heardMore o_now_lie o_now_changes o_now_heard o_heirs) (some (.int rr))) (F0 m 33 ls []) := by
  obtain ⟨hx, hb, hml, hown, hts, hrt, hlocks, hK, hA, hZ⟩ := id F
  intro n
  induction n with
  | zero =>
    intro x2 x3 x4 x5 x6 t_lies t_steps t_reached H locs ls hP hD hS hl hf
    cases hf
  | succ n ih =>
    intro x2 x3 x4 x5 x6 t_lies t_steps t_reached H locs ls hP hD hS hl hf
    refine lv_iload hx hb dX0_goesOn_33 (lv_at hl 6 rfl) ?_
    refine lv_iconst (v := 4) hx hb dX0_goesOn_35 (by decide) ?_
    refine lv_icmp_ge (tgt := 84) hx hb dX0_goesOn_36 (by decide) (fun c1 => ?_) (fun c1 => ?_)
    · replace hf := (if_pos c1).symm.trans hf
      refine lv_iinc (v := (x5 + 1)) (lv' := [(5, .int (x5 + 1)), (0, .ref (ad_t 0)), (1, .ref (ad_o 0)), (2, .int x2), (3, .int x3), (4, .int x4), (6, .int x6)]) hx hb dX0_goesOn_84 hl (k := 5) rfl rfl (by decide) rfl (fun ls hl => ?_)
      refine lv_goto (tgt := 12) hx hb dX0_goesOn_87 (by decide) ?_
      exact hb_12 x2 x3 x4 (x5 + 1) t_lies t_steps t_reached H locs ls hP hD hS (lv_sub hl [1, 2, 3, 4, 5, 0] rfl) hf
    · replace hf := (if_neg c1).symm.trans hf
      refine lv_iload hx hb dX0_goesOn_39 (lv_at hl 6 rfl) ?_
      refine lv_aload_n hx hb dX0_goesOn_41 rfl (lv_at hl 1 rfl) ?_
      refine gfN F hP in_X0_goesOn_X1 5 rfl rfl 2 (by decide) 16 rfl rfl dX0_goesOn_42 ?_
      refine lv_icmp_ge (tgt := 84) hx hb dX0_goesOn_45 (by decide) (fun c2 => ?_) (fun c2 => ?_)
      · replace hf := (if_pos c2).symm.trans hf
        refine lv_iinc (v := (x5 + 1)) (lv' := [(5, .int (x5 + 1)), (0, .ref (ad_t 0)), (1, .ref (ad_o 0)), (2, .int x2), (3, .int x3), (4, .int x4), (6, .int x6)]) hx hb dX0_goesOn_84 hl (k := 5) rfl rfl (by decide) rfl (fun ls hl => ?_)
        refine lv_goto (tgt := 12) hx hb dX0_goesOn_87 (by decide) ?_
        exact hb_12 x2 x3 x4 (x5 + 1) t_lies t_steps t_reached H locs ls hP hD hS (lv_sub hl [1, 2, 3, 4, 5, 0] rfl) hf
      · replace hf := (if_neg c2).symm.trans hf
        refine lv_aload_n hx hb dX0_goesOn_48 rfl (lv_at hl 1 rfl) ?_
        refine lv_iload_n hx hb dX0_goesOn_49 rfl (lv_at hl 2 rfl) ?_
        refine lv_iload hx hb dX0_goesOn_50 (lv_at hl 5 rfl) ?_
        refine lv_iload hx hb dX0_goesOn_52 (lv_at hl 6 rfl) ?_
        obtain ⟨v3, e4, hf⟩ := bnd hf
        refine cV F hP hD hS (k_X1_mayIn l ad_o o_kinds o_now_worths o_now_made o_now_heardOf o_now_heardThing o_now_heardOther o_now_heardMore o_now_lie o_now_changes o_now_heard o_heirs x2 x5 x6 e4) gX0_goesOn_X1_mayIn rfl ⟨rfl, rfl⟩ nd_X1_mayIn ⟨Nat.le_of_ble_eq_true rfl, Nat.le_of_ble_eq_true rfl⟩ 5 1 rfl rfl rfl hl.1 rfl (Nat.le_of_ble_eq_true rfl) dX0_goesOn_54 (pm1 (ws := (w_X0 cI cB ad_t t_lies t_steps t_reached t_number t_greatest t_least t_fewest ++ w_X1 cI cB ad_o o_kinds o_now_worths o_now_made o_now_heardOf o_now_heardThing o_now_heardOther o_now_heardMore o_now_lie o_now_changes o_now_heard o_heirs)) (X := List.take 5 (w_X0 cI cB ad_t t_lies t_steps t_reached t_number t_greatest t_least t_fewest ++ w_X1 cI cB ad_o o_kinds o_now_worths o_now_made o_now_heardOf o_now_heardThing o_now_heardOther o_now_heardMore o_now_lie o_now_changes o_now_heard o_heirs)) (Y := List.drop 21 (w_X0 cI cB ad_t t_lies t_steps t_reached t_number t_greatest t_least t_fewest ++ w_X1 cI cB ad_o o_kinds o_now_worths o_now_made o_now_heardOf o_now_heardThing o_now_heardOther o_now_heardMore o_now_lie o_now_changes o_now_heard o_heirs)) rfl) (pm1 (ws := (w_X0 cI cB ad_t t_lies t_steps t_reached t_number t_greatest t_least t_fewest ++ w_X1 cI cB ad_o o_kinds o_now_worths o_now_made o_now_heardOf o_now_heardThing o_now_heardOther o_now_heardMore o_now_lie o_now_changes o_now_heard o_heirs)) (X := List.take 5 (w_X0 cI cB ad_t t_lies t_steps t_reached t_number t_greatest t_least t_fewest ++ w_X1 cI cB ad_o o_kinds o_now_worths o_now_made o_now_heardOf o_now_heardThing o_now_heardOther o_now_heardMore o_now_lie o_now_changes o_now_heard o_heirs)) (Y := List.drop 21 (w_X0 cI cB ad_t t_lies t_steps t_reached t_number t_greatest t_least t_fewest ++ w_X1 cI cB ad_o o_kinds o_now_worths o_now_made o_now_heardOf o_now_heardThing o_now_heardOther o_now_heardMore o_now_lie o_now_changes o_now_heard o_heirs)) rfl) (fun H locs hP hD hS => ?_)
        refine lv_iconst (v := 3) hx hb dX0_goesOn_57 (by decide) ?_
        refine lv_icmp_ne (tgt := 78) hx hb dX0_goesOn_58 (by decide) (fun c5 => ?_) (fun c5 => ?_)
        · replace hf := (if_neg c5).symm.trans hf
          refine lv_iinc (v := (x6 + 1)) (lv' := [(6, .int (x6 + 1)), (0, .ref (ad_t 0)), (1, .ref (ad_o 0)), (2, .int x2), (3, .int x3), (4, .int x4), (5, .int x5)]) hx hb dX0_goesOn_78 hl (k := 6) rfl rfl (by decide) rfl (fun ls hl => ?_)
          refine lv_goto (tgt := 33) hx hb dX0_goesOn_81 (by decide) ?_
          exact ih x2 x3 x4 x5 (x6 + 1) t_lies t_steps t_reached H locs ls hP hD hS (lv_sub hl [1, 2, 3, 4, 5, 6, 0] rfl) hf
        · replace hf := (if_pos c5).symm.trans hf
          refine lv_iconst (v := 1) hx hb dX0_goesOn_61 (by decide) ?_
          refine lv_istore (lv' := [(4, .int 1), (0, .ref (ad_t 0)), (1, .ref (ad_o 0)), (2, .int x2), (3, .int x3), (5, .int x5), (6, .int x6)]) hx hb dX0_goesOn_62 hl (by decide) rfl (fun ls hl => ?_)
          refine lv_aload_n hx hb dX0_goesOn_64 rfl (lv_at hl 1 rfl) ?_
          refine lv_aload_n hx hb dX0_goesOn_65 rfl (lv_at hl 2 rfl) ?_
          refine lv_iload_n hx hb dX0_goesOn_66 rfl (lv_at hl 3 rfl) ?_
          refine lv_iload hx hb dX0_goesOn_67 (lv_at hl 5 rfl) ?_
          refine lv_iload hx hb dX0_goesOn_69 (lv_at hl 6 rfl) ?_
          obtain ⟨v6, e7, hf⟩ := bnd hf
          refine cV F hP hD hS (k_X1_changed l ad_o o_kinds o_now_worths o_now_made o_now_heardOf o_now_heardThing o_now_heardOther o_now_heardMore o_now_lie o_now_changes o_now_heard o_heirs x2 x5 x6 e7) gX0_goesOn_X1_changed rfl ⟨rfl, rfl⟩ nd_X1_changed ⟨Nat.le_of_ble_eq_true rfl, Nat.le_of_ble_eq_true rfl⟩ 5 1 rfl rfl rfl hl.1 rfl (Nat.le_of_ble_eq_true rfl) dX0_goesOn_71 (pm1 (ws := (w_X0 cI cB ad_t t_lies t_steps t_reached t_number t_greatest t_least t_fewest ++ w_X1 cI cB ad_o o_kinds o_now_worths o_now_made o_now_heardOf o_now_heardThing o_now_heardOther o_now_heardMore o_now_lie o_now_changes o_now_heard o_heirs)) (X := List.take 5 (w_X0 cI cB ad_t t_lies t_steps t_reached t_number t_greatest t_least t_fewest ++ w_X1 cI cB ad_o o_kinds o_now_worths o_now_made o_now_heardOf o_now_heardThing o_now_heardOther o_now_heardMore o_now_lie o_now_changes o_now_heard o_heirs)) (Y := List.drop 21 (w_X0 cI cB ad_t t_lies t_steps t_reached t_number t_greatest t_least t_fewest ++ w_X1 cI cB ad_o o_kinds o_now_worths o_now_made o_now_heardOf o_now_heardThing o_now_heardOther o_now_heardMore o_now_lie o_now_changes o_now_heard o_heirs)) rfl) (pm1 (ws := (w_X0 cI cB ad_t t_lies t_steps t_reached t_number t_greatest t_least t_fewest ++ w_X1 cI cB ad_o o_kinds o_now_worths o_now_made o_now_heardOf o_now_heardThing o_now_heardOther o_now_heardMore o_now_lie o_now_changes o_now_heard o_heirs)) (X := List.take 5 (w_X0 cI cB ad_t t_lies t_steps t_reached t_number t_greatest t_least t_fewest ++ w_X1 cI cB ad_o o_kinds o_now_worths o_now_made o_now_heardOf o_now_heardThing o_now_heardOther o_now_heardMore o_now_lie o_now_changes o_now_heard o_heirs)) (Y := List.drop 21 (w_X0 cI cB ad_t t_lies t_steps t_reached t_number t_greatest t_least t_fewest ++ w_X1 cI cB ad_o o_kinds o_now_worths o_now_made o_now_heardOf o_now_heardThing o_now_heardOther o_now_heardMore o_now_lie o_now_changes o_now_heard o_heirs)) rfl) (fun H locs hP hD hS => ?_)
          refine lv_iload_n hx hb dX0_goesOn_74 rfl (lv_at hl 4 rfl) ?_
          obtain ⟨⟨g8, g9, g10⟩, e11, hf⟩ := bnd hf
          refine cV F hP hD hS (k_X0_reach l ad_t t_lies t_steps t_reached t_number t_greatest t_least t_fewest v6 x3 e11) gX0_goesOn_X0_reach rfl ⟨rfl, rfl⟩ nd_X0_reach ⟨Nat.le_of_ble_eq_true rfl, Nat.le_of_ble_eq_true rfl⟩ 0 0 rfl rfl rfl hl.1 rfl (Nat.le_of_ble_eq_true rfl) dX0_goesOn_75 (pm1 (ws := (w_X0 cI cB ad_t t_lies t_steps t_reached t_number t_greatest t_least t_fewest ++ w_X1 cI cB ad_o o_kinds o_now_worths o_now_made o_now_heardOf o_now_heardThing o_now_heardOther o_now_heardMore o_now_lie o_now_changes o_now_heard o_heirs)) (X := List.take 0 (w_X0 cI cB ad_t t_lies t_steps t_reached t_number t_greatest t_least t_fewest ++ w_X1 cI cB ad_o o_kinds o_now_worths o_now_made o_now_heardOf o_now_heardThing o_now_heardOther o_now_heardMore o_now_lie o_now_changes o_now_heard o_heirs)) (Y := List.drop 5 (w_X0 cI cB ad_t t_lies t_steps t_reached t_number t_greatest t_least t_fewest ++ w_X1 cI cB ad_o o_kinds o_now_worths o_now_made o_now_heardOf o_now_heardThing o_now_heardOther o_now_heardMore o_now_lie o_now_changes o_now_heard o_heirs)) rfl) (pm1 (ws := (w_X0 cI cB ad_t g8 g9 g10 t_number t_greatest t_least t_fewest ++ w_X1 cI cB ad_o o_kinds o_now_worths o_now_made o_now_heardOf o_now_heardThing o_now_heardOther o_now_heardMore o_now_lie o_now_changes o_now_heard o_heirs)) (X := List.take 0 (w_X0 cI cB ad_t t_lies t_steps t_reached t_number t_greatest t_least t_fewest ++ w_X1 cI cB ad_o o_kinds o_now_worths o_now_made o_now_heardOf o_now_heardThing o_now_heardOther o_now_heardMore o_now_lie o_now_changes o_now_heard o_heirs)) (Y := List.drop 5 (w_X0 cI cB ad_t t_lies t_steps t_reached t_number t_greatest t_least t_fewest ++ w_X1 cI cB ad_o o_kinds o_now_worths o_now_made o_now_heardOf o_now_heardThing o_now_heardOther o_now_heardMore o_now_lie o_now_changes o_now_heard o_heirs)) rfl) (fun H locs hP hD hS => ?_)
          refine lv_iinc (v := (x6 + 1)) (lv' := [(6, .int (x6 + 1)), (4, .int 1), (0, .ref (ad_t 0)), (1, .ref (ad_o 0)), (2, .int x2), (3, .int x3), (5, .int x5)]) hx hb dX0_goesOn_78 hl (k := 6) rfl rfl (by decide) rfl (fun ls hl => ?_)
          refine lv_goto (tgt := 33) hx hb dX0_goesOn_81 (by decide) ?_
          exact ih x2 x3 1 x5 (x6 + 1) g8 g9 g10 H locs ls hP hD hS (lv_sub hl [2, 3, 4, 5, 1, 6, 0] rfl) hf

set_option maxHeartbeats 4000000 in
set_option maxRecDepth 100000 in
theorem b_X0_goesOn_12 {p : Program} {l : Launch} {e : Env} {s : State} {m : MethodId} {args : Array Value} {below : List Frame} {meth : Method} {c : Code} {D : va_G} {cI cB : ClassId} {kK kV : Nat → Nat} {A : Nat → Prop} (F : Fx p m c s meth args cX0_goesOn 7 RX0 wsX0_goesOn (some .boolean) D cI cB kK kV A) {ad_t : Nat → Nat} {ad_o : Nat → Nat} {t_number : Int32} {t_greatest : Int32} {t_least : Int32} {t_fewest : Int32} {o_kinds : Nat → Int32} {o_now_worths : Nat → Int32} {o_now_made : Nat → Int32} {o_now_heardOf : Nat → Int32} {o_now_heardThing : Nat → Int32} {o_now_heardOther : Nat → Int32} {o_now_heardMore : Nat → Int32} {o_now_lie : Int32} {o_now_changes : Int32} {o_now_heard : Int32} {o_heirs : Int32} {rr : Int32} {g_t_lies : Nat → Int32} {g_t_steps : Nat → Int32} {g_t_reached : Int32} : ∀ (n : Nat), ∀ (x2 : Int32) (x3 : Int32) (x4 : Int32) (x5 : Int32) (t_lies : Nat → Int32) (t_steps : Nat → Int32) (t_reached : Int32) (H : Heap) (locs : List Loc) (ls : Array Slot), va_P D vwCl (w_X0 cI cB ad_t t_lies t_steps t_reached t_number t_greatest t_least t_fewest ++ w_X1 cI cB ad_o o_kinds o_now_worths o_now_made o_now_heardOf o_now_heardThing o_now_heardOther o_now_heardMore o_now_lie o_now_changes o_now_heard o_heirs) H → va_D A (w_X0 cI cB ad_t t_lies t_steps t_reached t_number t_greatest t_least t_fewest ++ w_X1 cI cB ad_o o_kinds o_now_worths o_now_made o_now_heardOf o_now_heardThing o_now_heardOther o_now_heardMore o_now_lie o_now_changes o_now_heard o_heirs) → va_S A s.heap H locs → lv_has ls 7 [(0, .ref (ad_t 0)), (1, .ref (ad_o 0)), (2, .int x2), (3, .int x3), (4, .int x4), (5, .int x5)] → f_X0_goesOn_12 o_kinds o_now_worths o_heirs  n x2 x3 x4 x5 t_lies t_steps t_reached = some (rr, g_t_lies, g_t_steps, g_t_reached) → W p l e rm_X0_goesOn s m args below meth c H locs 0 0 (Zq D below args s A (w_X0 cI cB ad_t g_t_lies g_t_steps g_t_reached t_number t_greatest t_least t_fewest ++ w_X1 cI cB ad_o o_kinds o_now_worths o_now_made o_now_heardOf o_now_heardThing o_now_heardOther o_now_heardMore o_now_lie o_now_changes o_now_heard o_heirs) (some (.int rr))) (F0 m 12 ls []) := by
  obtain ⟨hx, hb, hml, hown, hts, hrt, hlocks, hK, hA, hZ⟩ := id F
  intro n
  induction n with
  | zero =>
    intro x2 x3 x4 x5 t_lies t_steps t_reached H locs ls hP hD hS hl hf
    cases hf
  | succ n ih =>
    intro x2 x3 x4 x5 t_lies t_steps t_reached H locs ls hP hD hS hl hf
    refine lv_iload hx hb dX0_goesOn_12 (lv_at hl 5 rfl) ?_
    refine lv_iconst (v := 4) hx hb dX0_goesOn_14 (by decide) ?_
    refine lv_icmp_ge (tgt := 90) hx hb dX0_goesOn_15 (by decide) (fun c1 => ?_) (fun c1 => ?_)
    · replace hf := (if_pos c1).symm.trans hf
      refine lv_iload hx hb dX0_goesOn_90 (lv_at hl 4 rfl) ?_
      obtain ⟨b2, eb2, hf⟩ := bnd hf
      obtain ⟨nb2, qb2⟩ := bz_some eb2
      rw [qb2] at nb2
      refine teqi qb2 ?_
      replace hf : (some (b2, t_lies, t_steps, t_reached) : Option (Int32 × (Nat → Int32) × (Nat → Int32) × Int32)) = some (rr, g_t_lies, g_t_steps, g_t_reached) := hf
      cases hf
      exact ret_z F nb2 hP hS dX0_goesOn_92
    · replace hf := (if_neg c1).symm.trans hf
      refine lv_iload hx hb dX0_goesOn_18 (lv_at hl 5 rfl) ?_
      refine lv_aload_n hx hb dX0_goesOn_20 rfl (lv_at hl 1 rfl) ?_
      refine gfN F hP in_X0_goesOn_X1 5 rfl rfl 2 (by decide) 16 rfl rfl dX0_goesOn_21 ?_
      refine lv_icmp_ge (tgt := 90) hx hb dX0_goesOn_24 (by decide) (fun c3 => ?_) (fun c3 => ?_)
      · replace hf := (if_pos c3).symm.trans hf
        refine lv_iload hx hb dX0_goesOn_90 (lv_at hl 4 rfl) ?_
        obtain ⟨b4, eb4, hf⟩ := bnd hf
        obtain ⟨nb4, qb4⟩ := bz_some eb4
        rw [qb4] at nb4
        refine teqi qb4 ?_
        replace hf : (some (b4, t_lies, t_steps, t_reached) : Option (Int32 × (Nat → Int32) × (Nat → Int32) × Int32)) = some (rr, g_t_lies, g_t_steps, g_t_reached) := hf
        cases hf
        exact ret_z F nb4 hP hS dX0_goesOn_92
      · replace hf := (if_neg c3).symm.trans hf
        refine lv_iload hx hb dX0_goesOn_27 (lv_at hl 5 rfl) ?_
        refine lv_iconst (v := 1) hx hb dX0_goesOn_29 (by decide) ?_
        refine lv_iadd hx hb dX0_goesOn_30 ?_
        refine lv_istore (lv' := [(6, .int (x5 + 1)), (0, .ref (ad_t 0)), (1, .ref (ad_o 0)), (2, .int x2), (3, .int x3), (4, .int x4), (5, .int x5)]) hx hb dX0_goesOn_31 hl (by decide) rfl (fun ls hl => ?_)
        exact b_X0_goesOn_33 F (f_X0_goesOn_12 o_kinds o_now_worths o_heirs  n) ih 300 x2 x3 x4 x5 (x5 + 1) t_lies t_steps t_reached H locs ls hP hD hS (lv_sub hl [1, 2, 3, 4, 5, 6, 0] rfl) hf

set_option maxHeartbeats 4000000 in
set_option maxRecDepth 100000 in
theorem k_X0_goesOn (l : Launch) {D : va_G} {cI cB : ClassId} {kK kV : Nat → Nat} (ad_t : Nat → Nat) (ad_o : Nat → Nat) (t_lies : Nat → Int32) (t_steps : Nat → Int32) (t_reached : Int32) (t_number : Int32) (t_greatest : Int32) (t_least : Int32) (t_fewest : Int32) (o_kinds : Nat → Int32) (o_now_worths : Nat → Int32) (o_now_made : Nat → Int32) (o_now_heardOf : Nat → Int32) (o_now_heardThing : Nat → Int32) (o_now_heardOther : Nat → Int32) (o_now_heardMore : Nat → Int32) (o_now_lie : Int32) (o_now_changes : Int32) (o_now_heard : Int32) (o_heirs : Int32) (x2 : Int32) (x3 : Int32) {rr : Int32} {g_t_lies : Nat → Int32} {g_t_steps : Nat → Int32} {g_t_reached : Int32} (hf : f_X0_goesOn t_lies t_steps t_reached o_kinds o_now_worths o_heirs x2 x3 = some (rr, g_t_lies, g_t_steps, g_t_reached)) : Ct l yX0_goesOn wsX0_goesOn rm_X0_goesOn D cI cB kK kV [.ref (ad_t 0), .ref (ad_o 0), .int x2, .int x3] (w_X0 cI cB ad_t t_lies t_steps t_reached t_number t_greatest t_least t_fewest ++ w_X1 cI cB ad_o o_kinds o_now_worths o_now_made o_now_heardOf o_now_heardThing o_now_heardOther o_now_heardMore o_now_lie o_now_changes o_now_heard o_heirs) (w_X0 cI cB ad_t g_t_lies g_t_steps g_t_reached t_number t_greatest t_least t_fewest ++ w_X1 cI cB ad_o o_kinds o_now_worths o_now_made o_now_heardOf o_now_heardThing o_now_heardOther o_now_heardMore o_now_lie o_now_changes o_now_heard o_heirs) (some (.int rr)) := by
  refine Ct.of (cc := cX0_goesOn) (maxL := 7) (ret := (some .boolean)) (by decide) rfl (Nat.le_of_ble_eq_true rfl) rfl ?_
  intro p e s m below meth c A ls F hP hD hS hl
  have hl : lv_has ls 7 [(0, .ref (ad_t 0)), (1, .ref (ad_o 0)), (2, .int x2), (3, .int x3)] := hl
  obtain ⟨hx, hb, hml, hown, hts, hrt, hlocks, hK, hA, hZ⟩ := id F
  obtain ⟨H, hH⟩ : ∃ H, H = s.heap := ⟨_, rfl⟩
  obtain ⟨locs, hLo⟩ : ∃ q : List Loc, q = [] := ⟨_, rfl⟩
  refine (?_ : W p l e rm_X0_goesOn s m _ below meth c s.heap [] 0 0 _ _)
  rw [← hH, ← hLo]
  rw [← hH] at hP
  have hS : va_S A s.heap H locs := by rw [hH, hLo]; exact hS
  refine lv_aload_n hx hb dX0_goesOn_0 rfl (lv_at hl 1 rfl) ?_
  refine lv_ifnonnull (tgt := 6) hx hb dX0_goesOn_1 (by decide) ?_
  refine lv_iconst (v := 0) hx hb dX0_goesOn_6 (by decide) ?_
  refine lv_istore (lv' := [(4, .int 0), (0, .ref (ad_t 0)), (1, .ref (ad_o 0)), (2, .int x2), (3, .int x3)]) hx hb dX0_goesOn_7 hl (by decide) rfl (fun ls hl => ?_)
  refine lv_iconst (v := 0) hx hb dX0_goesOn_9 (by decide) ?_
  refine lv_istore (lv' := [(5, .int 0), (4, .int 0), (0, .ref (ad_t 0)), (1, .ref (ad_o 0)), (2, .int x2), (3, .int x3)]) hx hb dX0_goesOn_10 hl (by decide) rfl (fun ls hl => ?_)
  exact b_X0_goesOn_12 F 300 x2 x3 0 0 t_lies t_steps t_reached H locs ls hP hD hS (lv_sub hl [2, 3, 4, 5, 1, 0] rfl) hf

/-! X0_seek -/
def rm_X0_seek : Room := { frames := 4, cells := 0, slots := 0, locals := 100 }
theorem in_X0_seek_X0 : ∀ w ∈ u_ws RX0 TX0 7, w ∈ wsX0_seek := fun _ h => List.mem_cons_of_mem _ (List.mem_append_left _ (List.mem_append_left _ (List.mem_append_left _ (List.mem_append_left _ (List.mem_append_right _ (h))))))
theorem in_X0_seek_X1 : ∀ w ∈ u_ws RX1 TX1 3, w ∈ wsX0_seek := fun _ h => List.mem_cons_of_mem _ (List.mem_append_left _ (List.mem_append_left _ (List.mem_append_left _ (List.mem_append_right _ (h)))))
theorem in_X0_seek_X4 : ∀ w ∈ u_ws RX4 TX4 9, w ∈ wsX0_seek := fun _ h => List.mem_cons_of_mem _ (List.mem_append_left _ (List.mem_append_left _ (List.mem_append_right _ (h))))
theorem nd_X0_seek : yX0_seek.cls = RX0 ∧ yX0_seek.cls ≠ "java/lang/invoke/MethodHandle" ∧ yX0_seek.cls ≠ "java/lang/invoke/VarHandle" ∧ (parseMethodDescriptor yX0_seek.desc).map (fun d => d.parameters.length) = some 1 := by decide +kernel
def f_X0_seek_29 (o_kinds : Nat → Int32) (o_now_worths : Nat → Int32) (o_now_lie : Int32) (o_heirs : Int32)  : Nat → Int32 → (Nat → Int32) → (Nat → Int32) → Int32 → Int32 → Int32 → Int32 → Int32 → Option ((Nat → Int32) × (Nat → Int32) × Int32 × Int32 × Int32 × Int32 × Int32)
  | 0, _, _, _, _, _, _, _, _ => none
  | n + 1, x2, t_lies, t_steps, t_reached, t_number, t_greatest, t_least, t_fewest => (if 24 ≤ x2 then some (t_lies, t_steps, t_reached, t_number, t_greatest, t_least, t_fewest) else (if t_reached ≤ x2 then some (t_lies, t_steps, t_reached, t_number, t_greatest, t_least, t_fewest) else (f_X3_get 24 t_lies x2).bind (fun v3 => (f_X3_get 24 t_steps x2).bind (fun v5 => (f_X0_goesOn t_lies t_steps t_reached o_kinds o_now_worths o_heirs v3 (v5 + 1)).bind (fun (v7, g8, g9, g10) => (if v7 = 0 then (f_X3_get 24 g8 x2).bind (fun v13 => (f_X1_sumOf o_now_worths o_heirs v13).bind (fun v15 => (f_X3_get 24 g9 x2).bind (fun v17 => (f_X0_noteEnd t_number t_greatest t_least t_fewest v15 v17).bind (fun (g19, g20, g21, g22) => f_X0_seek_29 o_kinds o_now_worths o_now_lie o_heirs  n (x2 + 1) g8 g9 g10 g19 g20 g21 g22)))) else f_X0_seek_29 o_kinds o_now_worths o_now_lie o_heirs  n (x2 + 1) g8 g9 g10 t_number t_greatest t_least t_fewest))))))
def f_X0_seek (t_lies : Nat → Int32) (t_steps : Nat → Int32) (t_reached : Int32) (t_number : Int32) (t_greatest : Int32) (t_least : Int32) (t_fewest : Int32) (o_kinds : Nat → Int32) (o_now_worths : Nat → Int32) (o_now_lie : Int32) (o_heirs : Int32)  : Option ((Nat → Int32) × (Nat → Int32) × Int32 × Int32 × Int32 × Int32 × Int32) := (f_X0_reach t_lies t_steps 0 o_now_lie 0).bind (fun (g1, g2, g3) => f_X0_seek_29 o_kinds o_now_worths o_now_lie o_heirs 300 0 g1 g2 g3 0 t_greatest t_least t_fewest)
set_option maxHeartbeats 4000000 in
set_option maxRecDepth 100000 in
theorem b_X0_seek_29 {p : Program} {l : Launch} {e : Env} {s : State} {m : MethodId} {args : Array Value} {below : List Frame} {meth : Method} {c : Code} {D : va_G} {cI cB : ClassId} {kK kV : Nat → Nat} {A : Nat → Prop} (F : Fx p m c s meth args cX0_seek 3 RX0 wsX0_seek none D cI cB kK kV A) {ad_t : Nat → Nat} {ad_o : Nat → Nat} {o_kinds : Nat → Int32} {o_now_worths : Nat → Int32} {o_now_made : Nat → Int32} {o_now_heardOf : Nat → Int32} {o_now_heardThing : Nat → Int32} {o_now_heardOther : Nat → Int32} {o_now_heardMore : Nat → Int32} {o_now_lie : Int32} {o_now_changes : Int32} {o_now_heard : Int32} {o_heirs : Int32}  {g_t_lies : Nat → Int32} {g_t_steps : Nat → Int32} {g_t_reached : Int32} {g_t_number : Int32} {g_t_greatest : Int32} {g_t_least : Int32} {g_t_fewest : Int32} : ∀ (n : Nat), ∀ (x2 : Int32) (t_lies : Nat → Int32) (t_steps : Nat → Int32) (t_reached : Int32) (t_number : Int32) (t_greatest : Int32) (t_least : Int32) (t_fewest : Int32) (H : Heap) (locs : List Loc) (ls : Array Slot), va_P D vwCl (w_X0 cI cB ad_t t_lies t_steps t_reached t_number t_greatest t_least t_fewest ++ w_X1 cI cB ad_o o_kinds o_now_worths o_now_made o_now_heardOf o_now_heardThing o_now_heardOther o_now_heardMore o_now_lie o_now_changes o_now_heard o_heirs) H → va_D A (w_X0 cI cB ad_t t_lies t_steps t_reached t_number t_greatest t_least t_fewest ++ w_X1 cI cB ad_o o_kinds o_now_worths o_now_made o_now_heardOf o_now_heardThing o_now_heardOther o_now_heardMore o_now_lie o_now_changes o_now_heard o_heirs) → va_S A s.heap H locs → lv_has ls 3 [(0, .ref (ad_t 0)), (1, .ref (ad_o 0)), (2, .int x2)] → f_X0_seek_29 o_kinds o_now_worths o_now_lie o_heirs  n x2 t_lies t_steps t_reached t_number t_greatest t_least t_fewest = some (g_t_lies, g_t_steps, g_t_reached, g_t_number, g_t_greatest, g_t_least, g_t_fewest) → W p l e rm_X0_seek s m args below meth c H locs 0 0 (Zq D below args s A (w_X0 cI cB ad_t g_t_lies g_t_steps g_t_reached g_t_number g_t_greatest g_t_least g_t_fewest ++ w_X1 cI cB ad_o o_kinds o_now_worths o_now_made o_now_heardOf o_now_heardThing o_now_heardOther o_now_heardMore o_now_lie o_now_changes o_now_heard o_heirs) none) (F0 m 29 ls []) := by
  obtain ⟨hx, hb, hml, hown, hts, hrt, hlocks, hK, hA, hZ⟩ := id F
  intro n
  induction n with
  | zero =>
    intro x2 t_lies t_steps t_reached t_number t_greatest t_least t_fewest H locs ls hP hD hS hl hf
    cases hf
  | succ n ih =>
    intro x2 t_lies t_steps t_reached t_number t_greatest t_least t_fewest H locs ls hP hD hS hl hf
    refine lv_iload_n hx hb dX0_seek_29 rfl (lv_at hl 2 rfl) ?_
    refine lv_bipush (v := 24) hx hb dX0_seek_30 (by decide) ?_
    refine lv_icmp_ge (tgt := 99) hx hb dX0_seek_32 (by decide) (fun c1 => ?_) (fun c1 => ?_)
    · replace hf := (if_pos c1).symm.trans hf
      replace hf : (some (t_lies, t_steps, t_reached, t_number, t_greatest, t_least, t_fewest) : Option ((Nat → Int32) × (Nat → Int32) × Int32 × Int32 × Int32 × Int32 × Int32)) = some (g_t_lies, g_t_steps, g_t_reached, g_t_number, g_t_greatest, g_t_least, g_t_fewest) := hf
      cases hf
      exact ret_v F hP hS dX0_seek_99
    · replace hf := (if_neg c1).symm.trans hf
      refine lv_iload_n hx hb dX0_seek_35 rfl (lv_at hl 2 rfl) ?_
      refine lv_aload_n hx hb dX0_seek_36 rfl (lv_at hl 0 rfl) ?_
      refine gf F hP in_X0_seek_X0 0 rfl rfl 2 (by decide) 1 rfl rfl dX0_seek_37 ?_
      refine lv_icmp_ge (tgt := 99) hx hb dX0_seek_40 (by decide) (fun c2 => ?_) (fun c2 => ?_)
      · replace hf := (if_pos c2).symm.trans hf
        replace hf : (some (t_lies, t_steps, t_reached, t_number, t_greatest, t_least, t_fewest) : Option ((Nat → Int32) × (Nat → Int32) × Int32 × Int32 × Int32 × Int32 × Int32)) = some (g_t_lies, g_t_steps, g_t_reached, g_t_number, g_t_greatest, g_t_least, g_t_fewest) := hf
        cases hf
        exact ret_v F hP hS dX0_seek_99
      · replace hf := (if_neg c2).symm.trans hf
        refine lv_aload_n hx hb dX0_seek_43 rfl (lv_at hl 0 rfl) ?_
        refine lv_aload_n hx hb dX0_seek_44 rfl (lv_at hl 1 rfl) ?_
        refine lv_aload_n hx hb dX0_seek_45 rfl (lv_at hl 0 rfl) ?_
        refine gf F hP in_X0_seek_X0 0 rfl rfl 0 (by decide) 3 rfl rfl dX0_seek_46 ?_
        refine lv_iload_n hx hb dX0_seek_49 rfl (lv_at hl 2 rfl) ?_
        obtain ⟨v3, e4, hf⟩ := bnd hf
        refine cV F hP hD hS (k_X3_get l (sh ad_t 1) 24 t_lies x2 e4) gX0_seek_X3_get rfl ⟨rfl, rfl⟩ nd_X3_get ⟨Nat.le_of_ble_eq_true rfl, Nat.le_of_ble_eq_true rfl⟩ 1 3 rfl rfl rfl hl.1 rfl (Nat.le_of_ble_eq_true rfl) dX0_seek_50 (pm1 (ws := (w_X0 cI cB ad_t t_lies t_steps t_reached t_number t_greatest t_least t_fewest ++ w_X1 cI cB ad_o o_kinds o_now_worths o_now_made o_now_heardOf o_now_heardThing o_now_heardOther o_now_heardMore o_now_lie o_now_changes o_now_heard o_heirs)) (X := List.take 1 (w_X0 cI cB ad_t t_lies t_steps t_reached t_number t_greatest t_least t_fewest ++ w_X1 cI cB ad_o o_kinds o_now_worths o_now_made o_now_heardOf o_now_heardThing o_now_heardOther o_now_heardMore o_now_lie o_now_changes o_now_heard o_heirs)) (Y := List.drop 3 (w_X0 cI cB ad_t t_lies t_steps t_reached t_number t_greatest t_least t_fewest ++ w_X1 cI cB ad_o o_kinds o_now_worths o_now_made o_now_heardOf o_now_heardThing o_now_heardOther o_now_heardMore o_now_lie o_now_changes o_now_heard o_heirs)) rfl) (pm1 (ws := (w_X0 cI cB ad_t t_lies t_steps t_reached t_number t_greatest t_least t_fewest ++ w_X1 cI cB ad_o o_kinds o_now_worths o_now_made o_now_heardOf o_now_heardThing o_now_heardOther o_now_heardMore o_now_lie o_now_changes o_now_heard o_heirs)) (X := List.take 1 (w_X0 cI cB ad_t t_lies t_steps t_reached t_number t_greatest t_least t_fewest ++ w_X1 cI cB ad_o o_kinds o_now_worths o_now_made o_now_heardOf o_now_heardThing o_now_heardOther o_now_heardMore o_now_lie o_now_changes o_now_heard o_heirs)) (Y := List.drop 3 (w_X0 cI cB ad_t t_lies t_steps t_reached t_number t_greatest t_least t_fewest ++ w_X1 cI cB ad_o o_kinds o_now_worths o_now_made o_now_heardOf o_now_heardThing o_now_heardOther o_now_heardMore o_now_lie o_now_changes o_now_heard o_heirs)) rfl) (fun H locs hP hD hS => ?_)
        refine lv_aload_n hx hb dX0_seek_53 rfl (lv_at hl 0 rfl) ?_
        refine gf F hP in_X0_seek_X0 0 rfl rfl 1 (by decide) 4 rfl rfl dX0_seek_54 ?_
        refine lv_iload_n hx hb dX0_seek_57 rfl (lv_at hl 2 rfl) ?_
        obtain ⟨v5, e6, hf⟩ := bnd hf
        refine cV F hP hD hS (k_X3_get l (sh ad_t 3) 24 t_steps x2 e6) gX0_seek_X3_get rfl ⟨rfl, rfl⟩ nd_X3_get ⟨Nat.le_of_ble_eq_true rfl, Nat.le_of_ble_eq_true rfl⟩ 3 3 rfl rfl rfl hl.1 rfl (Nat.le_of_ble_eq_true rfl) dX0_seek_58 (pm1 (ws := (w_X0 cI cB ad_t t_lies t_steps t_reached t_number t_greatest t_least t_fewest ++ w_X1 cI cB ad_o o_kinds o_now_worths o_now_made o_now_heardOf o_now_heardThing o_now_heardOther o_now_heardMore o_now_lie o_now_changes o_now_heard o_heirs)) (X := List.take 3 (w_X0 cI cB ad_t t_lies t_steps t_reached t_number t_greatest t_least t_fewest ++ w_X1 cI cB ad_o o_kinds o_now_worths o_now_made o_now_heardOf o_now_heardThing o_now_heardOther o_now_heardMore o_now_lie o_now_changes o_now_heard o_heirs)) (Y := List.drop 5 (w_X0 cI cB ad_t t_lies t_steps t_reached t_number t_greatest t_least t_fewest ++ w_X1 cI cB ad_o o_kinds o_now_worths o_now_made o_now_heardOf o_now_heardThing o_now_heardOther o_now_heardMore o_now_lie o_now_changes o_now_heard o_heirs)) rfl) (pm1 (ws := (w_X0 cI cB ad_t t_lies t_steps t_reached t_number t_greatest t_least t_fewest ++ w_X1 cI cB ad_o o_kinds o_now_worths o_now_made o_now_heardOf o_now_heardThing o_now_heardOther o_now_heardMore o_now_lie o_now_changes o_now_heard o_heirs)) (X := List.take 3 (w_X0 cI cB ad_t t_lies t_steps t_reached t_number t_greatest t_least t_fewest ++ w_X1 cI cB ad_o o_kinds o_now_worths o_now_made o_now_heardOf o_now_heardThing o_now_heardOther o_now_heardMore o_now_lie o_now_changes o_now_heard o_heirs)) (Y := List.drop 5 (w_X0 cI cB ad_t t_lies t_steps t_reached t_number t_greatest t_least t_fewest ++ w_X1 cI cB ad_o o_kinds o_now_worths o_now_made o_now_heardOf o_now_heardThing o_now_heardOther o_now_heardMore o_now_lie o_now_changes o_now_heard o_heirs)) rfl) (fun H locs hP hD hS => ?_)
        refine lv_iconst (v := 1) hx hb dX0_seek_61 (by decide) ?_
        refine lv_iadd hx hb dX0_seek_62 ?_
        obtain ⟨⟨v7, g8, g9, g10⟩, e11, hf⟩ := bnd hf
        refine cV F hP hD hS (k_X0_goesOn l ad_t ad_o t_lies t_steps t_reached t_number t_greatest t_least t_fewest o_kinds o_now_worths o_now_made o_now_heardOf o_now_heardThing o_now_heardOther o_now_heardMore o_now_lie o_now_changes o_now_heard o_heirs v3 (v5 + 1) e11) gX0_seek_X0_goesOn rfl ⟨rfl, rfl⟩ nd_X0_goesOn ⟨Nat.le_of_ble_eq_true rfl, Nat.le_of_ble_eq_true rfl⟩ 0 0 rfl rfl rfl hl.1 rfl (Nat.le_of_ble_eq_true rfl) dX0_seek_63 (pm0 (w_X0 cI cB ad_t t_lies t_steps t_reached t_number t_greatest t_least t_fewest ++ w_X1 cI cB ad_o o_kinds o_now_worths o_now_made o_now_heardOf o_now_heardThing o_now_heardOther o_now_heardMore o_now_lie o_now_changes o_now_heard o_heirs)) (pm0 (w_X0 cI cB ad_t g8 g9 g10 t_number t_greatest t_least t_fewest ++ w_X1 cI cB ad_o o_kinds o_now_worths o_now_made o_now_heardOf o_now_heardThing o_now_heardOther o_now_heardMore o_now_lie o_now_changes o_now_heard o_heirs)) (fun H locs hP hD hS => ?_)
        refine lv_if_ne (tgt := 93) hx hb dX0_seek_66 (by decide) (fun c12 => ?_) (fun c12 => ?_)
        · replace hf := (if_neg c12).symm.trans hf
          refine lv_iinc (v := (x2 + 1)) (lv' := [(2, .int (x2 + 1)), (0, .ref (ad_t 0)), (1, .ref (ad_o 0))]) hx hb dX0_seek_93 hl (k := 2) rfl rfl (by decide) rfl (fun ls hl => ?_)
          refine lv_goto (tgt := 29) hx hb dX0_seek_96 (by decide) ?_
          exact ih (x2 + 1) g8 g9 g10 t_number t_greatest t_least t_fewest H locs ls hP hD hS (lv_sub hl [1, 2, 0] rfl) hf
        · replace hf := (if_pos c12).symm.trans hf
          refine lv_aload_n hx hb dX0_seek_69 rfl (lv_at hl 0 rfl) ?_
          refine lv_aload_n hx hb dX0_seek_70 rfl (lv_at hl 1 rfl) ?_
          refine lv_aload_n hx hb dX0_seek_71 rfl (lv_at hl 0 rfl) ?_
          refine gf F hP in_X0_seek_X0 0 rfl rfl 0 (by decide) 3 rfl rfl dX0_seek_72 ?_
          refine lv_iload_n hx hb dX0_seek_75 rfl (lv_at hl 2 rfl) ?_
          obtain ⟨v13, e14, hf⟩ := bnd hf
          refine cV F hP hD hS (k_X3_get l (sh ad_t 1) 24 g8 x2 e14) gX0_seek_X3_get rfl ⟨rfl, rfl⟩ nd_X3_get ⟨Nat.le_of_ble_eq_true rfl, Nat.le_of_ble_eq_true rfl⟩ 1 3 rfl rfl rfl hl.1 rfl (Nat.le_of_ble_eq_true rfl) dX0_seek_76 (pm1 (ws := (w_X0 cI cB ad_t g8 g9 g10 t_number t_greatest t_least t_fewest ++ w_X1 cI cB ad_o o_kinds o_now_worths o_now_made o_now_heardOf o_now_heardThing o_now_heardOther o_now_heardMore o_now_lie o_now_changes o_now_heard o_heirs)) (X := List.take 1 (w_X0 cI cB ad_t g8 g9 g10 t_number t_greatest t_least t_fewest ++ w_X1 cI cB ad_o o_kinds o_now_worths o_now_made o_now_heardOf o_now_heardThing o_now_heardOther o_now_heardMore o_now_lie o_now_changes o_now_heard o_heirs)) (Y := List.drop 3 (w_X0 cI cB ad_t g8 g9 g10 t_number t_greatest t_least t_fewest ++ w_X1 cI cB ad_o o_kinds o_now_worths o_now_made o_now_heardOf o_now_heardThing o_now_heardOther o_now_heardMore o_now_lie o_now_changes o_now_heard o_heirs)) rfl) (pm1 (ws := (w_X0 cI cB ad_t g8 g9 g10 t_number t_greatest t_least t_fewest ++ w_X1 cI cB ad_o o_kinds o_now_worths o_now_made o_now_heardOf o_now_heardThing o_now_heardOther o_now_heardMore o_now_lie o_now_changes o_now_heard o_heirs)) (X := List.take 1 (w_X0 cI cB ad_t g8 g9 g10 t_number t_greatest t_least t_fewest ++ w_X1 cI cB ad_o o_kinds o_now_worths o_now_made o_now_heardOf o_now_heardThing o_now_heardOther o_now_heardMore o_now_lie o_now_changes o_now_heard o_heirs)) (Y := List.drop 3 (w_X0 cI cB ad_t g8 g9 g10 t_number t_greatest t_least t_fewest ++ w_X1 cI cB ad_o o_kinds o_now_worths o_now_made o_now_heardOf o_now_heardThing o_now_heardOther o_now_heardMore o_now_lie o_now_changes o_now_heard o_heirs)) rfl) (fun H locs hP hD hS => ?_)
          obtain ⟨v15, e16, hf⟩ := bnd hf
          refine cV F hP hD hS (k_X1_sumOf l ad_o o_kinds o_now_worths o_now_made o_now_heardOf o_now_heardThing o_now_heardOther o_now_heardMore o_now_lie o_now_changes o_now_heard o_heirs v13 e16) gX0_seek_X1_sumOf rfl ⟨rfl, rfl⟩ nd_X1_sumOf ⟨Nat.le_of_ble_eq_true rfl, Nat.le_of_ble_eq_true rfl⟩ 5 1 rfl rfl rfl hl.1 rfl (Nat.le_of_ble_eq_true rfl) dX0_seek_79 (pm1 (ws := (w_X0 cI cB ad_t g8 g9 g10 t_number t_greatest t_least t_fewest ++ w_X1 cI cB ad_o o_kinds o_now_worths o_now_made o_now_heardOf o_now_heardThing o_now_heardOther o_now_heardMore o_now_lie o_now_changes o_now_heard o_heirs)) (X := List.take 5 (w_X0 cI cB ad_t g8 g9 g10 t_number t_greatest t_least t_fewest ++ w_X1 cI cB ad_o o_kinds o_now_worths o_now_made o_now_heardOf o_now_heardThing o_now_heardOther o_now_heardMore o_now_lie o_now_changes o_now_heard o_heirs)) (Y := List.drop 21 (w_X0 cI cB ad_t g8 g9 g10 t_number t_greatest t_least t_fewest ++ w_X1 cI cB ad_o o_kinds o_now_worths o_now_made o_now_heardOf o_now_heardThing o_now_heardOther o_now_heardMore o_now_lie o_now_changes o_now_heard o_heirs)) rfl) (pm1 (ws := (w_X0 cI cB ad_t g8 g9 g10 t_number t_greatest t_least t_fewest ++ w_X1 cI cB ad_o o_kinds o_now_worths o_now_made o_now_heardOf o_now_heardThing o_now_heardOther o_now_heardMore o_now_lie o_now_changes o_now_heard o_heirs)) (X := List.take 5 (w_X0 cI cB ad_t g8 g9 g10 t_number t_greatest t_least t_fewest ++ w_X1 cI cB ad_o o_kinds o_now_worths o_now_made o_now_heardOf o_now_heardThing o_now_heardOther o_now_heardMore o_now_lie o_now_changes o_now_heard o_heirs)) (Y := List.drop 21 (w_X0 cI cB ad_t g8 g9 g10 t_number t_greatest t_least t_fewest ++ w_X1 cI cB ad_o o_kinds o_now_worths o_now_made o_now_heardOf o_now_heardThing o_now_heardOther o_now_heardMore o_now_lie o_now_changes o_now_heard o_heirs)) rfl) (fun H locs hP hD hS => ?_)
          refine lv_aload_n hx hb dX0_seek_82 rfl (lv_at hl 0 rfl) ?_
          refine gf F hP in_X0_seek_X0 0 rfl rfl 1 (by decide) 4 rfl rfl dX0_seek_83 ?_
          refine lv_iload_n hx hb dX0_seek_86 rfl (lv_at hl 2 rfl) ?_
          obtain ⟨v17, e18, hf⟩ := bnd hf
          refine cV F hP hD hS (k_X3_get l (sh ad_t 3) 24 g9 x2 e18) gX0_seek_X3_get rfl ⟨rfl, rfl⟩ nd_X3_get ⟨Nat.le_of_ble_eq_true rfl, Nat.le_of_ble_eq_true rfl⟩ 3 3 rfl rfl rfl hl.1 rfl (Nat.le_of_ble_eq_true rfl) dX0_seek_87 (pm1 (ws := (w_X0 cI cB ad_t g8 g9 g10 t_number t_greatest t_least t_fewest ++ w_X1 cI cB ad_o o_kinds o_now_worths o_now_made o_now_heardOf o_now_heardThing o_now_heardOther o_now_heardMore o_now_lie o_now_changes o_now_heard o_heirs)) (X := List.take 3 (w_X0 cI cB ad_t g8 g9 g10 t_number t_greatest t_least t_fewest ++ w_X1 cI cB ad_o o_kinds o_now_worths o_now_made o_now_heardOf o_now_heardThing o_now_heardOther o_now_heardMore o_now_lie o_now_changes o_now_heard o_heirs)) (Y := List.drop 5 (w_X0 cI cB ad_t g8 g9 g10 t_number t_greatest t_least t_fewest ++ w_X1 cI cB ad_o o_kinds o_now_worths o_now_made o_now_heardOf o_now_heardThing o_now_heardOther o_now_heardMore o_now_lie o_now_changes o_now_heard o_heirs)) rfl) (pm1 (ws := (w_X0 cI cB ad_t g8 g9 g10 t_number t_greatest t_least t_fewest ++ w_X1 cI cB ad_o o_kinds o_now_worths o_now_made o_now_heardOf o_now_heardThing o_now_heardOther o_now_heardMore o_now_lie o_now_changes o_now_heard o_heirs)) (X := List.take 3 (w_X0 cI cB ad_t g8 g9 g10 t_number t_greatest t_least t_fewest ++ w_X1 cI cB ad_o o_kinds o_now_worths o_now_made o_now_heardOf o_now_heardThing o_now_heardOther o_now_heardMore o_now_lie o_now_changes o_now_heard o_heirs)) (Y := List.drop 5 (w_X0 cI cB ad_t g8 g9 g10 t_number t_greatest t_least t_fewest ++ w_X1 cI cB ad_o o_kinds o_now_worths o_now_made o_now_heardOf o_now_heardThing o_now_heardOther o_now_heardMore o_now_lie o_now_changes o_now_heard o_heirs)) rfl) (fun H locs hP hD hS => ?_)
          obtain ⟨⟨g19, g20, g21, g22⟩, e23, hf⟩ := bnd hf
          refine cV F hP hD hS (k_X0_noteEnd l ad_t g8 g9 g10 t_number t_greatest t_least t_fewest v15 v17 e23) gX0_seek_X0_noteEnd rfl ⟨rfl, rfl⟩ nd_X0_noteEnd ⟨Nat.le_of_ble_eq_true rfl, Nat.le_of_ble_eq_true rfl⟩ 0 0 rfl rfl rfl hl.1 rfl (Nat.le_of_ble_eq_true rfl) dX0_seek_90 (pm1 (ws := (w_X0 cI cB ad_t g8 g9 g10 t_number t_greatest t_least t_fewest ++ w_X1 cI cB ad_o o_kinds o_now_worths o_now_made o_now_heardOf o_now_heardThing o_now_heardOther o_now_heardMore o_now_lie o_now_changes o_now_heard o_heirs)) (X := List.take 0 (w_X0 cI cB ad_t g8 g9 g10 t_number t_greatest t_least t_fewest ++ w_X1 cI cB ad_o o_kinds o_now_worths o_now_made o_now_heardOf o_now_heardThing o_now_heardOther o_now_heardMore o_now_lie o_now_changes o_now_heard o_heirs)) (Y := List.drop 5 (w_X0 cI cB ad_t g8 g9 g10 t_number t_greatest t_least t_fewest ++ w_X1 cI cB ad_o o_kinds o_now_worths o_now_made o_now_heardOf o_now_heardThing o_now_heardOther o_now_heardMore o_now_lie o_now_changes o_now_heard o_heirs)) rfl) (pm1 (ws := (w_X0 cI cB ad_t g8 g9 g10 g19 g20 g21 g22 ++ w_X1 cI cB ad_o o_kinds o_now_worths o_now_made o_now_heardOf o_now_heardThing o_now_heardOther o_now_heardMore o_now_lie o_now_changes o_now_heard o_heirs)) (X := List.take 0 (w_X0 cI cB ad_t g8 g9 g10 t_number t_greatest t_least t_fewest ++ w_X1 cI cB ad_o o_kinds o_now_worths o_now_made o_now_heardOf o_now_heardThing o_now_heardOther o_now_heardMore o_now_lie o_now_changes o_now_heard o_heirs)) (Y := List.drop 5 (w_X0 cI cB ad_t g8 g9 g10 t_number t_greatest t_least t_fewest ++ w_X1 cI cB ad_o o_kinds o_now_worths o_now_made o_now_heardOf o_now_heardThing o_now_heardOther o_now_heardMore o_now_lie o_now_changes o_now_heard o_heirs)) rfl) (fun H locs hP hD hS => ?_)
          refine lv_iinc (v := (x2 + 1)) (lv' := [(2, .int (x2 + 1)), (0, .ref (ad_t 0)), (1, .ref (ad_o 0))]) hx hb dX0_seek_93 hl (k := 2) rfl rfl (by decide) rfl (fun ls hl => ?_)
          refine lv_goto (tgt := 29) hx hb dX0_seek_96 (by decide) ?_
          exact ih (x2 + 1) g8 g9 g10 g19 g20 g21 g22 H locs ls hP hD hS (lv_sub hl [1, 2, 0] rfl) hf

set_option maxHeartbeats 4000000 in
set_option maxRecDepth 100000 in
theorem k_X0_seek (l : Launch) {D : va_G} {cI cB : ClassId} {kK kV : Nat → Nat} (ad_t : Nat → Nat) (ad_o : Nat → Nat) (t_lies : Nat → Int32) (t_steps : Nat → Int32) (t_reached : Int32) (t_number : Int32) (t_greatest : Int32) (t_least : Int32) (t_fewest : Int32) (o_kinds : Nat → Int32) (o_now_worths : Nat → Int32) (o_now_made : Nat → Int32) (o_now_heardOf : Nat → Int32) (o_now_heardThing : Nat → Int32) (o_now_heardOther : Nat → Int32) (o_now_heardMore : Nat → Int32) (o_now_lie : Int32) (o_now_changes : Int32) (o_now_heard : Int32) (o_heirs : Int32)   {g_t_lies : Nat → Int32} {g_t_steps : Nat → Int32} {g_t_reached : Int32} {g_t_number : Int32} {g_t_greatest : Int32} {g_t_least : Int32} {g_t_fewest : Int32} (hf : f_X0_seek t_lies t_steps t_reached t_number t_greatest t_least t_fewest o_kinds o_now_worths o_now_lie o_heirs = some (g_t_lies, g_t_steps, g_t_reached, g_t_number, g_t_greatest, g_t_least, g_t_fewest)) : Ct l yX0_seek wsX0_seek rm_X0_seek D cI cB kK kV [.ref (ad_t 0), .ref (ad_o 0)] (w_X0 cI cB ad_t t_lies t_steps t_reached t_number t_greatest t_least t_fewest ++ w_X1 cI cB ad_o o_kinds o_now_worths o_now_made o_now_heardOf o_now_heardThing o_now_heardOther o_now_heardMore o_now_lie o_now_changes o_now_heard o_heirs) (w_X0 cI cB ad_t g_t_lies g_t_steps g_t_reached g_t_number g_t_greatest g_t_least g_t_fewest ++ w_X1 cI cB ad_o o_kinds o_now_worths o_now_made o_now_heardOf o_now_heardThing o_now_heardOther o_now_heardMore o_now_lie o_now_changes o_now_heard o_heirs) none := by
  refine Ct.of (cc := cX0_seek) (maxL := 3) (ret := none) (by decide) rfl (Nat.le_of_ble_eq_true rfl) rfl ?_
  intro p e s m below meth c A ls F hP hD hS hl
  have hl : lv_has ls 3 [(0, .ref (ad_t 0)), (1, .ref (ad_o 0))] := hl
  obtain ⟨hx, hb, hml, hown, hts, hrt, hlocks, hK, hA, hZ⟩ := id F
  obtain ⟨H, hH⟩ : ∃ H, H = s.heap := ⟨_, rfl⟩
  obtain ⟨locs, hLo⟩ : ∃ q : List Loc, q = [] := ⟨_, rfl⟩
  refine (?_ : W p l e rm_X0_seek s m _ below meth c s.heap [] 0 0 _ _)
  rw [← hH, ← hLo]
  rw [← hH] at hP
  have hS : va_S A s.heap H locs := by rw [hH, hLo]; exact hS
  refine lv_aload_n hx hb dX0_seek_0 rfl (lv_at hl 0 rfl) ?_
  refine lv_iconst (v := 0) hx hb dX0_seek_1 (by decide) ?_
  refine pf F hP hD hS in_X0_seek_X0 tyX0 tyX0_ok nmX0 0 rfl rfl 2 (by decide) 1 rfl rfl rfl rfl (Nat.le_of_ble_eq_true rfl) dX0_seek_2 (w_X0 cI cB ad_t t_lies t_steps 0 t_number t_greatest t_least t_fewest ++ w_X1 cI cB ad_o o_kinds o_now_worths o_now_made o_now_heardOf o_now_heardThing o_now_heardOther o_now_heardMore o_now_lie o_now_changes o_now_heard o_heirs) rfl (fun H locs hP hD hS => ?_)
  refine lv_aload_n hx hb dX0_seek_5 rfl (lv_at hl 0 rfl) ?_
  refine lv_iconst (v := 0) hx hb dX0_seek_6 (by decide) ?_
  refine pf F hP hD hS in_X0_seek_X0 tyX0 tyX0_ok nmX0 0 rfl rfl 3 (by decide) 2 rfl rfl rfl rfl (Nat.le_of_ble_eq_true rfl) dX0_seek_7 (w_X0 cI cB ad_t t_lies t_steps 0 0 t_greatest t_least t_fewest ++ w_X1 cI cB ad_o o_kinds o_now_worths o_now_made o_now_heardOf o_now_heardThing o_now_heardOther o_now_heardMore o_now_lie o_now_changes o_now_heard o_heirs) rfl (fun H locs hP hD hS => ?_)
  refine lv_aload_n hx hb dX0_seek_10 rfl (lv_at hl 1 rfl) ?_
  refine lv_ifnonnull (tgt := 15) hx hb dX0_seek_11 (by decide) ?_
  refine lv_aload_n hx hb dX0_seek_15 rfl (lv_at hl 0 rfl) ?_
  refine lv_aload_n hx hb dX0_seek_16 rfl (lv_at hl 1 rfl) ?_
  refine gfN F hP in_X0_seek_X1 5 rfl rfl 1 (by decide) 14 rfl rfl dX0_seek_17 ?_
  refine gfN F hP in_X0_seek_X4 8 rfl rfl 6 (by decide) 15 rfl rfl dX0_seek_20 ?_
  refine lv_iconst (v := 0) hx hb dX0_seek_23 (by decide) ?_
  obtain ⟨⟨g1, g2, g3⟩, e4, hf⟩ := bnd hf
  refine cV F hP hD hS (k_X0_reach l ad_t t_lies t_steps 0 0 t_greatest t_least t_fewest o_now_lie 0 e4) gX0_seek_X0_reach rfl ⟨rfl, rfl⟩ nd_X0_reach ⟨Nat.le_of_ble_eq_true rfl, Nat.le_of_ble_eq_true rfl⟩ 0 0 rfl rfl rfl hl.1 rfl (Nat.le_of_ble_eq_true rfl) dX0_seek_24 (pm1 (ws := (w_X0 cI cB ad_t t_lies t_steps 0 0 t_greatest t_least t_fewest ++ w_X1 cI cB ad_o o_kinds o_now_worths o_now_made o_now_heardOf o_now_heardThing o_now_heardOther o_now_heardMore o_now_lie o_now_changes o_now_heard o_heirs)) (X := List.take 0 (w_X0 cI cB ad_t t_lies t_steps 0 0 t_greatest t_least t_fewest ++ w_X1 cI cB ad_o o_kinds o_now_worths o_now_made o_now_heardOf o_now_heardThing o_now_heardOther o_now_heardMore o_now_lie o_now_changes o_now_heard o_heirs)) (Y := List.drop 5 (w_X0 cI cB ad_t t_lies t_steps 0 0 t_greatest t_least t_fewest ++ w_X1 cI cB ad_o o_kinds o_now_worths o_now_made o_now_heardOf o_now_heardThing o_now_heardOther o_now_heardMore o_now_lie o_now_changes o_now_heard o_heirs)) rfl) (pm1 (ws := (w_X0 cI cB ad_t g1 g2 g3 0 t_greatest t_least t_fewest ++ w_X1 cI cB ad_o o_kinds o_now_worths o_now_made o_now_heardOf o_now_heardThing o_now_heardOther o_now_heardMore o_now_lie o_now_changes o_now_heard o_heirs)) (X := List.take 0 (w_X0 cI cB ad_t t_lies t_steps 0 0 t_greatest t_least t_fewest ++ w_X1 cI cB ad_o o_kinds o_now_worths o_now_made o_now_heardOf o_now_heardThing o_now_heardOther o_now_heardMore o_now_lie o_now_changes o_now_heard o_heirs)) (Y := List.drop 5 (w_X0 cI cB ad_t t_lies t_steps 0 0 t_greatest t_least t_fewest ++ w_X1 cI cB ad_o o_kinds o_now_worths o_now_made o_now_heardOf o_now_heardThing o_now_heardOther o_now_heardMore o_now_lie o_now_changes o_now_heard o_heirs)) rfl) (fun H locs hP hD hS => ?_)
  refine lv_iconst (v := 0) hx hb dX0_seek_27 (by decide) ?_
  refine lv_istore_n (lv' := [(2, .int 0), (0, .ref (ad_t 0)), (1, .ref (ad_o 0))]) hx hb dX0_seek_28 rfl hl (by decide) rfl (fun ls hl => ?_)
  exact b_X0_seek_29 F 300 0 g1 g2 g3 0 t_greatest t_least t_fewest H locs ls hP hD hS (lv_sub hl [1, 2, 0] rfl) hf

