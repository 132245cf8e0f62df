/-! ===== years by a seed ===== -/
theorem lN_and (a b : Nat) : lN a &&& lN b = lN (a &&& b) := by
  apply Int64.toBitVec_inj.1
  show BitVec.ofNat 64 a &&& BitVec.ofNat 64 b = BitVec.ofNat 64 (a &&& b)
  apply BitVec.eq_of_getLsbD_eq
  intro i hi
  simp [hi]
def nz (z : Nat) : Nat := (1103515245 * z + 12345) % 2 ^ 31
theorem nz_lt (z : Nat) : nz z < 2147483648 := Nat.mod_lt _ (by decide)
theorem seed_ok (z : Nat) : ((1103515245 * lN z) + 12345) &&& 2147483647 = lN (nz z) := by
  show (lN 1103515245 * lN z + lN 12345) &&& lN (2 ^ 31 - 1) = _
  rw [lN_mul, lN_add, lN_and, Nat.and_two_pow_sub_one_eq_mod]
  rfl
theorem next_ok {z : Nat} (hz : z < 2147483648) : f_X6_nextSeed (nI z) = some (nI (nz z)) := by
  unfold f_X6_nextSeed
  rw [nI_l (by omega), seed_ok, lN_i]
theorem rmI_ok {x d : Nat} (hx : x < 2147483648) (hd : 0 < d) (hd2 : d < 2147483648) : rmI (nI x) (nI d) = some (nI (x % d)) := by
  unfold rmI
  rw [if_neg (nI_ne0 hd (by omega)), pk_rem (by omega) hd (by omega)]
theorem rmL_ok {x d : Nat} (hx : x < 2147483648) (hd : 0 < d) (hd2 : d < 2147483648) : rmL (lN x) (lN d) = some (lN (x % d)) := by
  unfold rmL
  rw [if_neg (fun e => by have := (pk_lEQ (a := d) (b := 0) (by omega) (by omega)).mp e; omega), pk_lRem (by omega) hd (by omega)]
theorem drawn_ok {z h : Nat} (hz : z < 2147483648) (h0 : 0 < h) (hh : h ≤ 4) : f_X6_drawn (nI z) (nI h) = some (nI (z / 65536 % h)) := by
  refine (if_pos (slt (a := 0) (b := h))).trans ?_
  rw [show nI z / 65536 = nI (z / 65536) from pk_div (d := 65536) (by omega) (by decide) (by decide)]
  exact (bok (rmI_ok (by omega) h0 (by omega))).trans rfl
theorem draw_ok {z h : Nat} (h0 : 0 < h) (hh : h ≤ 4) : f_X7_draw (lN z) (nI h) = some (nI (nz z / 65536 % h), lN (nz z)) := by
  have hz := nz_lt z
  unfold f_X7_draw
  rw [seed_ok, nI_l (by omega), show lN (nz z) / 65536 = lN (nz z / 65536) from pk_lDiv (b := 65536) (by omega) (by decide) (by decide)]
  refine (bok (rmL_ok (by omega) h0 (by omega))).trans ?_
  rw [lN_i]
theorem okT_swp {h x a b : Nat} (hh : h ≤ 4) (hx : x < 4 ^ h) (ha : a < h) (hb : b < h) (hab : a ≠ b) {f : Nat → Int32} (hT : okT h x f) : okT h (swp h x a b) (upd (upd f a (f b)) b (f a)) := by
  obtain ⟨s1, s2, s3, s4⟩ := swp_ok hh hx ha hb hab
  intro j hj
  by_cases jb : j = b
  · subst jb
    rw [us, s3]
    exact hT a ha
  · rw [un jb]
    by_cases ja : j = a
    · subst ja
      rw [us, s2]
      exact hT b hb
    · rw [un ja, s4 j hj ja jb]
      exact hT j hj
theorem save_loop {h : Nat} {kinds worths things says : Nat → Int32} {seedN : Int64} (hh : h ≤ 4) {x1 x2 x3 : Int32} :
    ∀ (d n i : Nat) (sv : Nat → Int32), d = h - i → i ≤ h → d < n → (∀ j, j < i → sv j = things j) → ∃ g, (∀ j, j < h → g j = things j) ∧ f_X7_yearsNow_3 (nI h) kinds worths n x1 x2 x3 (nI i) things says seedN sv = f_X7_yearsNow_44 (nI h) kinds worths 300 x1 x3 0 0 things says x2.toInt64 g := by
  intro d
  induction d with
  | zero =>
    intro n i sv hd hi hn hs
    have h4 : i = h := by omega
    subst h4
    obtain ⟨n, rfl⟩ : ∃ m, n = m + 1 := ⟨n - 1, by omega⟩
    exact ⟨sv, hs, if_pos (sle (a := i) (b := i))⟩
  | succ d ih =>
    intro n i sv hd hi hn hs
    obtain ⟨n, rfl⟩ : ∃ m, n = m + 1 := ⟨n - 1, by omega⟩
    obtain ⟨g, g1, g2⟩ := ih n (i + 1) (upd sv i (things i)) (by omega) (by omega) (by omega) (fun j hj => by
      by_cases e : j = i
      · subst e; exact us
      · rw [un e]; exact hs j (by omega))
    refine ⟨g, g1, ?_⟩
    refine (if_neg (snle (a := h) (b := i))).trans ?_
    refine (bok (rd_ok (i := i))).trans ?_
    refine (bok (wr_ok (i := i))).trans ?_
    rw [nI_1]
    exact g2
theorem back_loop {h : Nat} {kinds worths says sv : Nat → Int32} {seedN : Int64} (hh : h ≤ 4) {x3 x4 x5 : Int32} :
    ∀ (d n i : Nat) (f : Nat → Int32), d = h - i → i ≤ h → d < n → (∀ j, j < i → f j = sv j) → ∃ g, (∀ j, j < h → g j = sv j) ∧ f_X7_yearsNow_139 (nI h) kinds worths n x3 x4 x5 (nI i) f says seedN sv = some ((if x3 = 0 then x4 else if x3 = 1 then x5 else seedN.toInt32), g, says, seedN, sv) := by
  intro d
  induction d with
  | zero =>
    intro n i f hd hi hn hs
    have h4 : i = h := by omega
    subst h4
    obtain ⟨n, rfl⟩ : ∃ m, n = m + 1 := ⟨n - 1, by omega⟩
    refine ⟨f, hs, ?_⟩
    refine (if_pos (sle (a := i) (b := i))).trans ?_
    by_cases c : x3 = 0
    · refine (if_pos c).trans ?_
      rw [if_pos c]
    · refine (if_neg c).trans ?_
      rw [if_neg c]
      by_cases c1 : x3 = 1
      · refine (if_pos c1).trans ?_
        rw [if_pos c1]
      · refine (if_neg c1).trans ?_
        rw [if_neg c1]
  | succ d ih =>
    intro n i f hd hi hn hs
    obtain ⟨n, rfl⟩ : ∃ m, n = m + 1 := ⟨n - 1, by omega⟩
    obtain ⟨g, g1, g2⟩ := ih n (i + 1) (upd f i (sv i)) (by omega) (by omega) (by omega) (fun j hj => by
      by_cases e : j = i
      · subst e; exact us
      · rw [un e]; exact hs j (by omega))
    refine ⟨g, g1, ?_⟩
    refine (if_neg (snle (a := h) (b := i))).trans ?_
    refine (bok (rd_ok (i := i))).trans ?_
    refine (bok (wr_ok (i := i))).trans ?_
    rw [nI_1]
    exact g2
theorem years_loop {h T : Nat} {K W : Nat → Nat} {kinds worths mk mw sv : Nat → Int32} (hK : okK h K kinds) (hW : okW W worths) (hK2 : okK h K mk) (hW2 : okW W mw) (h0 : 0 < h) (hh : h ≤ 4) (hT60 : T ≤ 60) (what : Int32) (lie0 : Int32) :
    ∀ (d n n2 k x z : Nat) (done : Int32) (things says : Nat → Int32), d = T - k → k ≤ T → d < n → d < n2 → okX h x → okT h x things → z < 2147483648 → ∃ r g s q, (∀ j, j < h → g j = sv j) ∧ f_X6_years_61 kinds worths lie0 (nI h) n (nI T) what (nI x) done (nI z) (nI k) = some r ∧ f_X7_yearsNow_44 (nI h) mk mw n2 (nI T) what done (nI k) things says (lN z) sv = some (r, g, s, q, sv) := by
  intro d
  induction d with
  | zero =>
    intro n n2 k x z done things says hd hk hn hn2 hx hT hz
    have h4 : k = T := by omega
    subst h4
    obtain ⟨n, rfl⟩ : ∃ m, n = m + 1 := ⟨n - 1, by omega⟩
    obtain ⟨n2, rfl⟩ : ∃ m, n2 = m + 1 := ⟨n2 - 1, by omega⟩
    obtain ⟨g, g1, g2⟩ := back_loop (kinds := mk) (worths := mw) (says := says) (sv := sv) (seedN := lN z) hh (x3 := what) (x4 := done) (x5 := nI (cn W h x h)) h 300 0 things (by omega) (by omega) (by omega) (fun j hj => absurd hj (by omega))
    refine ⟨(if what = 0 then done else if what = 1 then nI (cn W h x h) else (lN z).toInt32), g, says, lN z, g1, ?_, ?_⟩
    · refine (if_pos (sle (a := k) (b := k))).trans ?_
      rw [lN_i]
      by_cases c : what = 0
      · refine (if_pos c).trans ?_
        rw [if_pos c]
      · refine (if_neg c).trans ?_
        rw [if_neg c]
        by_cases c1 : what = 1
        · refine (if_pos c1).trans ?_
          rw [if_pos c1]
          exact (bok (contentIn_ok hW hh hx.1)).trans rfl
        · refine (if_neg c1).trans ?_
          rw [if_neg c1]
    · refine (if_pos (sle (a := k) (b := k))).trans ?_
      exact (bok (contentMany_ok hW2 hh hT)).trans g2
  | succ d ih =>
    intro n n2 k x z done things says hd hk hn hn2 hx hT hz
    obtain ⟨n, rfl⟩ : ∃ m, n = m + 1 := ⟨n - 1, by omega⟩
    obtain ⟨n2, rfl⟩ : ∃ m, n2 = m + 1 := ⟨n2 - 1, by omega⟩
    have z1 := nz_lt z
    have z2 := nz_lt (nz z)
    have ha : nz z / 65536 % h < h := Nat.mod_lt _ h0
    have hb : nz (nz z) / 65536 % h < h := Nat.mod_lt _ h0
    have cpre : ∀ r, (if nI (nz z / 65536 % h) = nI (nz (nz z) / 65536 % h) then f_X6_years_61 kinds worths lie0 (nI h) n (nI T) what (nI x) done (nI (nz (nz z))) (nI k + 1) else (f_X1_mayIn kinds worths (nI h) (nI x) (nI (nz z / 65536 % h)) (nI (nz (nz z) / 65536 % h))).bind (fun v15 => (if v15 = 3 then (f_X1_changed (nI h) (nI x) (nI (nz z / 65536 % h)) (nI (nz (nz z) / 65536 % h))).bind (fun v18 => f_X6_years_61 kinds worths lie0 (nI h) n (nI T) what v18 (done + 1) (nI (nz (nz z))) (nI k + 1)) else f_X6_years_61 kinds worths lie0 (nI h) n (nI T) what (nI x) done (nI (nz (nz z))) (nI k + 1)))) = some r → f_X6_years_61 kinds worths lie0 (nI h) (n + 1) (nI T) what (nI x) done (nI z) (nI k) = some r := by
      intro r hr
      refine (if_neg (snle (a := T) (b := k))).trans ?_
      refine (bok (next_ok hz)).trans ?_
      refine (bok (drawn_ok z1 h0 hh)).trans ?_
      refine (bok (next_ok z1)).trans ?_
      exact (bok (drawn_ok z2 h0 hh)).trans hr
    have mpre : ∀ r, (if nI (nz z / 65536 % h) = nI (nz (nz z) / 65536 % h) then f_X7_yearsNow_44 (nI h) mk mw n2 (nI T) what done (nI k + 1) things says (lN (nz (nz z))) sv else (f_X7_mayNow (nI h) mk mw things says (nI (nz z / 65536 % h)) (nI (nz (nz z) / 65536 % h))).bind (fun (v11, g12) => (if v11 = 3 then (rd things 4 (nI (nz z / 65536 % h))).bind (fun v15 => (rd things 4 (nI (nz (nz z) / 65536 % h))).bind (fun v16 => (wr things 4 (nI (nz z / 65536 % h)) v16).bind (fun g17 => (wr g17 4 (nI (nz (nz z) / 65536 % h)) v15).bind (fun g18 => f_X7_yearsNow_44 (nI h) mk mw n2 (nI T) what (done + 1) (nI k + 1) g18 g12 (lN (nz (nz z))) sv)))) else f_X7_yearsNow_44 (nI h) mk mw n2 (nI T) what done (nI k + 1) things g12 (lN (nz (nz z))) sv))) = some r → f_X7_yearsNow_44 (nI h) mk mw (n2 + 1) (nI T) what done (nI k) things says (lN z) sv = some r := by
      intro r hr
      refine (if_neg (snle (a := T) (b := k))).trans ?_
      refine (bok (draw_ok h0 hh)).trans ?_
      exact (bok (draw_ok h0 hh)).trans hr
    by_cases c : nz z / 65536 % h = nz (nz z) / 65536 % h
    · obtain ⟨r, g, s, q, q1, q2, q3⟩ := ih n n2 (k + 1) x (nz (nz z)) done things says (by omega) (by omega) (by omega) (by omega) hx hT z2
      refine ⟨r, g, s, q, q1, cpre _ ?_, mpre _ ?_⟩
      · rw [nI_1]; exact (if_pos (by rw [c])).trans q2
      · rw [nI_1]; exact (if_pos (by rw [c])).trans q3
    · obtain ⟨gs, hgs⟩ := mayNow_ok (says := says) hK2 hW2 hh hT ha hb
      have hmv := mv_le K W h x (nz z / 65536 % h) (nz (nz z) / 65536 % h)
      by_cases c3 : mv K W h x (nz z / 65536 % h) (nz (nz z) / 65536 % h) = 3
      · obtain ⟨r, g, s, q, q1, q2, q3⟩ := ih n n2 (k + 1) (swp h x (nz z / 65536 % h) (nz (nz z) / 65536 % h)) (nz (nz z)) (done + 1) (upd (upd things (nz z / 65536 % h) (things (nz (nz z) / 65536 % h))) (nz (nz z) / 65536 % h) (things (nz z / 65536 % h))) gs (by omega) (by omega) (by omega) (by omega) (okX_swp hh hx ha hb c) (okT_swp hh hx.1 ha hb c hT) z2
        refine ⟨r, g, s, q, q1, cpre _ ?_, mpre _ ?_⟩
        · refine (if_neg (sne c (by omega) (by omega))).trans ?_
          refine (bok (mayIn_ok hK hW hh hx.1 ha hb)).trans ?_
          refine (if_pos (by rw [c3]; rfl)).trans ?_
          refine (bok (changed_ok hh hx.1 ha hb)).trans ?_
          rw [nI_1]; exact q2
        · refine (if_neg (sne c (by omega) (by omega))).trans ?_
          refine (bok hgs).trans ?_
          refine (if_pos (by rw [c3]; rfl)).trans ?_
          refine (bok (rd_ok (i := nz z / 65536 % h))).trans ?_
          refine (bok (rd_ok (i := nz (nz z) / 65536 % h))).trans ?_
          refine (bok (wr_ok (i := nz z / 65536 % h))).trans ?_
          refine (bok (wr_ok (i := nz (nz z) / 65536 % h))).trans ?_
          rw [nI_1]; exact q3
      · obtain ⟨r, g, s, q, q1, q2, q3⟩ := ih n n2 (k + 1) x (nz (nz z)) done things gs (by omega) (by omega) (by omega) (by omega) hx hT z2
        refine ⟨r, g, s, q, q1, cpre _ ?_, mpre _ ?_⟩
        · refine (if_neg (sne c (by omega) (by omega))).trans ?_
          refine (bok (mayIn_ok hK hW hh hx.1 ha hb)).trans ?_
          refine (if_neg (sne (b := 3) c3 (by omega) (by omega))).trans ?_
          rw [nI_1]; exact q2
        · refine (if_neg (sne c (by omega) (by omega))).trans ?_
          refine (bok hgs).trans ?_
          refine (if_neg (sne (b := 3) c3 (by omega) (by omega))).trans ?_
          rw [nI_1]; exact q3
/-- years on both sides, for any numbers -/
theorem years_eq {h : Nat} {K W : Nat → Nat} {kinds worths mk mw things says sv : Nat → Int32} {seedN : Int64} (hK : okK h K kinds) (hW : okW W worths) (hK2 : okK h K mk) (hW2 : okW W mw) (hh : h ≤ 4) {x : Nat} {lie : Int32} (hx : 0 < h → okX h x ∧ lie = nI x ∧ okT h x things) (x1 x2 x3 : Int32) : ∃ r g s q v, (∀ j, j < h → g j = things j) ∧ f_X6_years kinds worths lie (nI h) x1 x2 x3 = some r ∧ f_X7_years (nI h) mk mw things says seedN sv x1 x2 x3 = some (r, g, s, q, v) := by
  rcases within_cases x1 1 60 (by omega) (by omega) with ⟨t, ht, e, w⟩ | ⟨_, c, w⟩
  · have cl1 : ¬ x1 < 1 := by rw [e]; exact snlt (a := 1 + t) (b := 1)
    have cl2 : ¬ 60 < x1 := by rw [e]; exact snlt (a := 60) (b := 1 + t)
    by_cases c2 : x2 < 0
    · refine ⟨-102, things, says, seedN, sv, fun _ _ => rfl, ?_, ?_⟩
      · exact (if_neg cl1).trans ((if_neg cl2).trans (if_pos c2))
      · exact (bok w).trans ((if_neg (by decide)).trans (if_pos c2))
    · rcases within_cases x3 0 3 (by omega) (by omega) with ⟨u, hu, e3, w3⟩ | ⟨_, c3, w3⟩
      · have d1 : ¬ x3 < 0 := by rw [e3]; exact snlt (a := 0 + u) (b := 0)
        have d2 : x3 ≤ 2 := by rw [e3]; exact sle (a := 0 + u) (b := 2)
        by_cases h0 : h = 0
        · subst h0
          refine ⟨-103, things, says, seedN, sv, fun _ _ => rfl, ?_, ?_⟩
          · exact (if_neg cl1).trans ((if_neg cl2).trans ((if_neg c2).trans ((if_neg d1).trans ((if_pos d2).trans (if_pos rfl)))))
          · exact (bok w).trans ((if_neg (by decide)).trans ((if_neg c2).trans ((bok w3).trans ((if_neg (by decide)).trans (if_pos rfl)))))
        · obtain ⟨hx1, hl, hT⟩ := hx (by omega)
          obtain ⟨z, hz, e2⟩ := nI_of c2
          obtain ⟨v, v1, v2⟩ := save_loop (kinds := mk) (worths := mw) (things := things) (says := says) (seedN := seedN) hh (x1 := x1) (x2 := x2) (x3 := x3) h 300 0 sv (by omega) (by omega) (by omega) (fun j hj => absurd hj (by omega))
          obtain ⟨r, g, s, q, q1, q2, q3⟩ := years_loop (sv := v) hK hW hK2 hW2 (by omega) hh (show 1 + t ≤ 60 by omega) x3 lie (1 + t) 300 300 0 x z 0 things says (by omega) (by omega) (by omega) (by omega) hx1 hT (by omega)
          refine ⟨r, g, s, q, v, fun j hj => (q1 j hj).trans (v1 j hj), ?_, ?_⟩
          · refine (if_neg cl1).trans ((if_neg cl2).trans ((if_neg c2).trans ((if_neg d1).trans ((if_pos d2).trans ((if_neg (nI_ne0 (by omega) (by omega))).trans ?_)))))
            rw [e, e2]
            rw [hl] at q2 ⊢
            exact q2
          · refine (bok w).trans ((if_neg (by decide)).trans ((if_neg c2).trans ((bok w3).trans ((if_neg (by decide)).trans ((if_neg (nI_ne0 (by omega) (by omega))).trans ?_)))))
            refine (bok (show f_X7_yearsNow (nI h) mk mw things says seedN sv x1 x2 x3 = some (r, g, s, q, v) from ?_)).trans rfl
            refine v2.trans ?_
            rw [e, e2, nI_l hz]
            exact q3
      · refine ⟨-102, things, says, seedN, sv, fun _ _ => rfl, ?_, ?_⟩
        · refine (if_neg cl1).trans ((if_neg cl2).trans ((if_neg c2).trans ?_))
          rcases c3 with c3 | c3
          · exact if_pos c3
          · have h1 := Int32.lt_iff_toInt_lt.mp c3
            have h2 : (nI (0 + 3 - 1)).toInt = 2 := rfl
            have d1 : ¬ x3 < 0 := fun q => by
              have := Int32.lt_iff_toInt_lt.mp q
              have h4 : (0 : Int32).toInt = 0 := rfl
              omega
            have d2 : ¬ x3 ≤ 2 := fun q => by
              have := Int32.le_iff_toInt_le.mp q
              have h4 : (2 : Int32).toInt = 2 := rfl
              omega
            exact (if_neg d1).trans (if_neg d2)
        · exact (bok w).trans ((if_neg (by decide)).trans ((if_neg c2).trans ((bok w3).trans (if_pos rfl))))
  · refine ⟨-102, things, says, seedN, sv, fun _ _ => rfl, ?_, ?_⟩
    · by_cases c1 : x1 < 1
      · exact if_pos c1
      · refine (if_neg c1).trans ?_
        rcases c with c | c
        · exact absurd c c1
        · exact if_pos c
    · exact (bok w).trans (if_pos rfl)
