set_option maxRecDepth 20000 in
theorem tw_ls : Cond.laysStatic "java/lang/String" "COMPACT_STRINGS" "Z" ∈ lw_tbl := List.mem_of_getElem? (i := 282) (by decide +kernel)
set_option maxRecDepth 20000 in
theorem tw_is : Cond.initialized "java/lang/String" ∈ lw_tbl := List.mem_of_getElem? (i := 54) (by decide +kernel)
/-- the classes, the rows' classes, the constant: as the tables and the Statement give them -/
theorem ws_known {s : State} {b : Nat} (hts : ∀ w ∈ lw_tbl, w.before #[Value.ref b] s = true) (hgv : (Jvm.Cond.and given_1 narrow_1).before #[Value.ref b] s = true) : ∃ (D : va_G) (cI cB : ClassId) (kK kV : Nat → Nat), va_K D vwCl [(cI, .int), (cB, .byte)] s ∧ kz kK kV (fun q : Nat => s.heap.size ≤ q) s s.heap := by
  obtain ⟨c0, i0, k0⟩ := u_known (C := RX0) (T := TX0) (N := 7) (n := 7) hts ml_wsX00 (hts _ tw_180)
  obtain ⟨c1, i1, k1⟩ := u_known (C := RX1) (T := TX1) (N := 3) (n := 3) hts ml_wsX10 (hts _ tw_98)
  obtain ⟨c2, i2, k2⟩ := u_known (C := RX2) (T := TX2) (N := 2) (n := 2) hts ml_wsX20 (hts _ tw_69)
  obtain ⟨c3, i3, k3⟩ := u_known (C := RX3) (T := TX3) (N := 1) (n := 1) hts ml_wsX30 (hts _ tw_75)
  obtain ⟨c4, i4, k4⟩ := u_known (C := RX4) (T := TX4) (N := 9) (n := 9) hts ml_wsX40 (hts _ tw_106)
  obtain ⟨c5, i5, k5⟩ := u_known (C := RX5) (T := TX5) (N := 1) (n := 1) hts ml_wsX50 (hts _ tw_112)
  obtain ⟨c6, i6, k6⟩ := u_known (C := RX6) (T := TX6) (N := 6) (n := 6) hts ml_wsX60 (hts _ tw_61)
  obtain ⟨c7, i7, k7⟩ := u_known (C := RX7) (T := TX7) (N := 35) (n := 35) hts ml_wsX70 (hts _ tw_645)
  obtain ⟨cI, kI, mI, a1, a2, a3⟩ := Cond.arrayClass_spec (show (Cond.arrayClass .int).holds #[Value.ref b] s none s [] = true from hts _ tw_87)
  obtain ⟨cB, kB, mB, b1, b2, b3⟩ := Cond.arrayClass_spec (show (Cond.arrayClass .byte).holds #[Value.ref b] s none s [] = true from hts _ tw_353)
  have hA : ∀ a : Nat, a < s.heap.size → ¬ (fun q : Nat => s.heap.size ≤ q) a := fun a h => Nat.not_le.mpr h
  have hfl := flat_of_before _ hgv
  obtain ⟨kK, kV, hS, hev⟩ := vk_Sof (args := #[Value.ref b]) (s := s) (N := 1) (tm := fun _ => .string RX2 43) (len := [5]) (byt := [[104, 115, 112, 108, 97]]) (A := fun q : Nat => s.heap.size ≤ q)
    (fun i hi => by rcases (show i = 0 by omega) with rfl; decide)
    (fun i hi => hfl (Cond.exactly (.string RX2 43) "java/lang/String") (by decide +kernel))
    (fun i hi => hfl (Cond.eq (.field (.string RX2 43) "java/lang/String" "coder" "B") (.int 0)) (by decide +kernel))
    (fun i hi => hfl (Cond.arrayOf (.field (.string RX2 43) "java/lang/String" "value" "[B") .byte) (by decide +kernel))
    (fun i hi => by rcases (show i = 0 by omega) with rfl; exact hfl (Cond.eq (.length (.field (.string RX2 43) "java/lang/String" "value" "[B")) (.int 5)) (by decide +kernel))
    (fun i hi j hj => by
      rcases (show i = 0 by omega) with rfl
      have hj : j < 5 := hj
      rcases (show j = 0 ∨ j = 1 ∨ j = 2 ∨ j = 3 ∨ j = 4 by omega) with rfl | rfl | rfl | rfl | rfl
      · exact hfl (Cond.eq (.elem (.field (.string RX2 43) "java/lang/String" "value" "[B") (.int 0)) (.int 104)) (by decide +kernel)
      · exact hfl (Cond.eq (.elem (.field (.string RX2 43) "java/lang/String" "value" "[B") (.int 1)) (.int 115)) (by decide +kernel)
      · exact hfl (Cond.eq (.elem (.field (.string RX2 43) "java/lang/String" "value" "[B") (.int 2)) (.int 112)) (by decide +kernel)
      · exact hfl (Cond.eq (.elem (.field (.string RX2 43) "java/lang/String" "value" "[B") (.int 3)) (.int 108)) (by decide +kernel)
      · exact hfl (Cond.eq (.elem (.field (.string RX2 43) "java/lang/String" "value" "[B") (.int 4)) (.int 97)) (by decide +kernel))
    (fun i j hi hj hij => absurd (show i = j by omega) hij) hA
  refine ⟨(fun k => if k = 0 then c0 else if k = 1 then c1 else if k = 2 then c2 else if k = 3 then c3 else if k = 4 then c4 else if k = 5 then c5 else if k = 6 then c6 else c7, fun k => if k = 0 then i0 else if k = 1 then i1 else if k = 2 then i2 else if k = 3 then i3 else if k = 4 then i4 else if k = 5 then i5 else if k = 6 then i6 else i7), cI, cB, kK, kV, ⟨?_, ?_⟩, ?_⟩
  · intro k q hq
    match k, hq with
    | 0, hq => cases hq; exact k0
    | 1, hq => cases hq; exact k1
    | 2, hq => cases hq; exact k2
    | 3, hq => cases hq; exact k3
    | 4, hq => cases hq; exact k4
    | 5, hq => cases hq; exact k5
    | 6, hq => cases hq; exact k6
    | 7, hq => cases hq; exact k7
    | k + 8, hq => simp [vwCl] at hq
  · intro k q hq
    match k, hq with
    | 0, hq => cases hq; exact ⟨fun n z => ⟨fun k h => (by cases h), kI, a2, mI, a3⟩, a1⟩
    | 1, hq => cases hq; exact ⟨fun n z => ⟨fun k h => (by cases h), kB, b2, mB, b3⟩, b1⟩
    | k + 2, hq => simp at hq
  · refine ⟨vk_R.of (hts _ tw_268) (hev 0 (by decide)), hS, va_Zof (hts _ tw_ls) (hts _ tw_is) (va_eqi (hfl (Cond.eq (.static "java/lang/String" "COMPACT_STRINGS" "Z") (.int 1)) (by decide +kernel))) hA, ?_, ?_⟩
    · intro q hq
      exact va_Nw.of rfl (hts (nwFc q) (lin_nwF _ (List.mem_map.mpr ⟨q, hq, rfl⟩)))
    · intro q hq
      exact va_Nw.of rfl (hts (nwMc q) (lin_nwM _ (List.mem_map.mpr ⟨q, hq, rfl⟩)))
set_option maxHeartbeats 4000000 in
set_option maxRecDepth 100000 in
/-- THE LAW, from its entry -/
theorem whole_start {p : Program} {e : Env} {s : State} {m : MethodId} {below : List Frame} {meth : Method} {c : Code} (l : Launch) {b L : Nat} {xs : Nat → Int32} (hL : L ≤ 320) (C0 : lw_At p s m meth c b L xs) : W p l e room_1 s m #[Value.ref b] below meth c s.heap [] 0 0 (lw_Z below #[Value.ref b] s) (entryFrame m ([Value.ref b] : List Value).toArray 4) := by
  obtain ⟨hx, hb, hr, hml, hown, hts, hX, hbl, hlocks, hgv⟩ := id C0
  obtain ⟨D, cI, cB, kK, kV, hK, hZ⟩ := ws_known hts hgv
  have hA : ∀ q : Nat, s.heap.size ≤ q → (fun q : Nat => s.heap.size ≤ q) q := fun _ h => h
  have hbA : ¬ (fun q : Nat => s.heap.size ≤ q) b := Nat.not_le.mpr hbl
  have F : Fx p m c s meth #[Value.ref b] cL_law 4 RL lw_tbl ret D cI cB kK kV (fun q : Nat => s.heap.size ≤ q) := ⟨hx, hb, hml, hown, hts, hr, hlocks, hK, hA, hZ⟩
  have hS : va_S (fun q : Nat => s.heap.size ≤ q) s.heap s.heap [] := va_S.rf
  have hP : va_P D vwCl [] s.heap := fun k q h => by simp at h
  have hD : va_D (fun q : Nat => s.heap.size ≤ q) [] := ⟨fun i j p q h => by simp at h, fun k q h => by simp at h⟩
  have hl := lv_entry ([.ref b]) (n := 4) (Nat.le_of_ble_eq_true rfl)
  rw [lg_entry_eq]
  generalize (lg_sl ([.ref b]) ++ List.replicate (4 - (lg_sl ([.ref b])).length) Slot.unset).toArray = ls at hl ⊢
  have hl : lv_has ls 4 [(0, .ref b)] := hl
  refine va_new (ci := 6) (fs := [.null, .null, .null, .null, .int 0, .int 0]) hx hb hts ml_wsX60 tyX6 tyX6_ok hown (hts _ tw_60) (hts _ tw_61) (hts _ tw_45) hK hP hD hS hA rfl df_X6 (Nat.le_of_ble_eq_true rfl) (Nat.le_of_ble_eq_true rfl) dL_law_0 (fun q1 H hP hD hS => ?_)
  refine lv_dup hx hb dL_law_3 rfl ?_
  refine n_run F hP hD hS (va_runI (As := []) (rest := [.ref q1]) ⟨hx, hb, hml, hown, hts⟩ (k_X6_init l q1 H.size) (cwI 0 hts gT_X6_init rfl rfl rfl (hts _ tw_45) (hts _ tw_62) (hts _ tw_63) rfl nd_X6_init ⟨Nat.le_of_ble_eq_true rfl, Nat.le_of_ble_eq_true rfl⟩) ⟨Pq.blind, n_pre F hP hD hS⟩ rfl rfl hl.1 rfl (lv_room (Nat.le_of_ble_eq_true rfl)) dL_law_4 ⟨Nat.le_of_ble_eq_true rfl, Nat.le_of_ble_eq_true rfl⟩) (fun ad_x H locs h1 hP hD hS => ?_)
  rw [← h1]
  have hP : va_P D vwCl (w_X6 cI cB ad_x z0 0 z0 z0 z0 z0 z0 z0 z0 0 0 0 0 z0 z0 0 0 0 0 0 z0 z0 z0 z0 z0 z0 0 0 0 0 0) H := hP
  have hD : va_D (fun q : Nat => s.heap.size ≤ q) (w_X6 cI cB ad_x z0 0 z0 z0 z0 z0 z0 z0 z0 0 0 0 0 z0 z0 0 0 0 0 0 z0 z0 z0 z0 z0 z0 0 0 0 0 0) := hD
  refine lv_astore_n (lv' := [(1, .ref (ad_x 0)), (0, .ref b)]) hx hb dL_law_7 rfl hl (by decide) rfl (fun ls hl => ?_)
  refine va_new (ci := 7) (fs := [.int 0, .int 0, .null, .null, .null, .null, .int 0, .int 0, .null, .null, .null, .null, .int 0, .null, .null, .null, .null, .int 0, .int 0, .int 0, .int 0, .long 0, .null, .int 0, .int 0, .int 0, .int 0, .null, .null, .null, .null, .null, .null, .null, .long 0]) hx hb hts ml_wsX70 tyX7 tyX7_ok hown (hts _ tw_644) (hts _ tw_645) (hts _ tw_53) hK hP hD hS hA rfl df_X7 (Nat.le_of_ble_eq_true rfl) (Nat.le_of_ble_eq_true rfl) dL_law_8 (fun q2 H hP hD hS => ?_)
  refine lv_dup hx hb dL_law_11 rfl ?_
  refine n_run F hP hD hS (va_runI (As := []) (rest := [.ref q2]) ⟨hx, hb, hml, hown, hts⟩ (k_X7_init l q2 H.size) (cwI 0 hts gT_X7_init rfl rfl rfl (hts _ tw_53) (hts _ tw_646) (hts _ tw_647) rfl nd_X7_init ⟨Nat.le_of_ble_eq_true rfl, Nat.le_of_ble_eq_true rfl⟩) ⟨Pq.blind, n_pre F hP hD hS⟩ rfl rfl hl.1 rfl (lv_room (Nat.le_of_ble_eq_true rfl)) dL_law_12 ⟨Nat.le_of_ble_eq_true rfl, Nat.le_of_ble_eq_true rfl⟩) (fun ad_m H locs h2 hP hD hS => ?_)
  rw [← h2]
  refine lv_astore_n (lv' := [(2, .ref (ad_m 0)), (1, .ref (ad_x 0)), (0, .ref b)]) hx hb dL_law_15 rfl hl (by decide) rfl (fun ls hl => ?_)
  refine lv_iconst (v := 0) hx hb dL_law_16 (by decide) ?_
  refine lv_istore_n (lv' := [(3, .int 0), (2, .ref (ad_m 0)), (1, .ref (ad_x 0)), (0, .ref b)]) hx hb dL_law_17 rfl hl (by decide) rfl (fun ls hl => ?_)
  refine W.widen (k := 600000) (n := 7302250) (Nat.le_of_ble_eq_true rfl) (Nat.le_of_ble_eq_true rfl) ?_
  exact b_L_law_18 F hX hbl hbA (fun _ h => h) 300 0 z0 0 z0 z0 z0 z0 z0 z0 z0 0 0 0 0 z0 z0 0 0 0 0 0 z0 z0 z0 z0 z0 z0 0 0 0 0 0 0 0 z0 z0 z0 z0 0 0 z0 z0 z0 z0 0 z0 z0 z0 z0 0 0 0 0 0 z0 0 0 0 0 z0 z0 z0 z0 z0 z0 z0 0 H locs ls hP hD hS (lv_sub hl [3, 2, 1, 0] rfl) (law_pure hL)
