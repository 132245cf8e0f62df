/-! ===== the calls, both sides ===== -/
def SD (h : Nat) (w ma ho ha hb hm : Nat → Int32) (lie ch he : Int32) (mw mt mc go ga gb gm : Nat → Int32) (mch mhe : Int32) : Prop := ∃ (W : Nat → Nat) (x hn : Nat) (o a b m : Nat → Nat), okW W w ∧ okW W mw ∧ okX h x ∧ lie = nI x ∧ okT h x mt ∧ (∀ i, i < h → ma i = mc i) ∧ ch = mch ∧ hn ≤ 6 ∧ he = nI hn ∧ mhe = nI hn ∧ okH h hn o a b m ho ha hb hm ∧ okH h hn o a b m go ga gb gm
theorem okW_cg {W : Nat → Nat} {f g : Nat → Int32} (h : okW W f) (e : ∀ j, j < 16 → g j = f j) : okW W g := fun j hj => by rw [e j hj]; exact h j hj
theorem okT_cg {h x : Nat} {f g : Nat → Int32} (hT : okT h x f) (e : ∀ j, j < h → g j = f j) : okT h x g := fun j hj => by rw [e j hj]; exact hT j hj
theorem okH_cg {h n : Nat} {o a b m : Nat → Nat} {fo fa fb fm go ga gb gm : Nat → Int32} (H : okH h n o a b m fo fa fb fm) (hn : n ≤ 6) (e1 : ∀ j, j < 6 → go j = fo j) (e2 : ∀ j, j < 6 → ga j = fa j) (e3 : ∀ j, j < 6 → gb j = fb j) (e4 : ∀ j, j < 6 → gm j = fm j) : okH h n o a b m go ga gb gm := fun j hj => by
  rw [e1 j (by omega), e2 j (by omega), e3 j (by omega), e4 j (by omega)]
  exact H j hj
theorem SD_cg {h : Nat} {w ma ho ha hb hm mw mt mc go ga gb gm w' ma' ho' ha' hb' hm' mw' mt' mc' go' ga' gb' gm' : Nat → Int32} {lie ch he mch mhe : Int32} (hh : h ≤ 4) (s : SD h w ma ho ha hb hm lie ch he mw mt mc go ga gb gm mch mhe)
    (e1 : ∀ j, j < 16 → w' j = w j) (e2 : ∀ j, j < 4 → ma' j = ma j) (e3 : ∀ j, j < 6 → ho' j = ho j) (e4 : ∀ j, j < 6 → ha' j = ha j) (e5 : ∀ j, j < 6 → hb' j = hb j) (e6 : ∀ j, j < 6 → hm' j = hm j)
    (d1 : ∀ j, j < 16 → mw' j = mw j) (d2 : ∀ j, j < 4 → mt' j = mt j) (d7 : ∀ j, j < 4 → mc' j = mc j) (d3 : ∀ j, j < 6 → go' j = go j) (d4 : ∀ j, j < 6 → ga' j = ga j) (d5 : ∀ j, j < 6 → gb' j = gb j) (d6 : ∀ j, j < 6 → gm' j = gm j) : SD h w' ma' ho' ha' hb' hm' lie ch he mw' mt' mc' go' ga' gb' gm' mch mhe := by
  obtain ⟨W, x, hn, o, a, b, m, s1, s2, s3, s4, s5, s6, s7, s8, s9, s10, s11, s12⟩ := s
  exact ⟨W, x, hn, o, a, b, m, okW_cg s1 e1, okW_cg s2 d1, s3, s4, okT_cg s5 (fun j hj => d2 j (by omega)), fun i hi => by rw [e2 i (by omega), d7 i (by omega)]; exact s6 i hi, s7, s8, s9, s10, okH_cg s11 s8 e3 e4 e5 e6, okH_cg s12 s8 d3 d4 d5 d6⟩
/-! about -/
set_option maxRecDepth 20000 in
theorem isT_tab : ∀ w, w < 24 → f_X6_isThing (nI w - 10) = some (if 10 ≤ w ∧ w < 14 then 1 else 0) ∧ f_X6_isThing (nI w - 20) = some (if 20 ≤ w then 1 else 0) := by decide +kernel
theorem about_in {h : Nat} {K W : Nat → Nat} {kinds worths made mk mw mt mc says : Nat → Int32} (hK : okK h K kinds) (hW : okW W worths) (hK2 : okK h K mk) (hW2 : okW W mw) (hh : h ≤ 4) {x : Nat} (hx : okX h x) (hT : okT h x mt) (hm : ∀ i, i < h → made i = mc i) {i w : Nat} (hi : i < h) (hw : w < 4 ∨ (10 ≤ w ∧ w < 14) ∨ (20 ≤ w ∧ w < 24)) :
    ∃ r g, f_X6_about kinds worths made (nI x) (nI h) (nI i) (nI w) = some r ∧ f_X7_heirNow (nI h) mk mw mt mc says (nI i) (nI w) = some (r, g) := by
  have hkn : f_X1_knows (nI h) (nI i) = some 1 := (if_neg (snlt (a := i) (b := 0))).trans (if_neg (snle (a := h) (b := i)))
  obtain ⟨t1, t2⟩ := isT_tab w (by omega)
  rcases hw with c | c | c
  · rw [if_neg (by omega)] at t1 t2
    have p1 : ∀ v, (if nI w = 0 then (f_X3_get 4 kinds (nI i)).bind (fun v11 => some v11) else (if nI w = 1 then (f_X1_thingOf (nI x) (nI h) (nI i)).bind (fun v14 => some v14) else (if nI w = 2 then (f_X1_isContent worths (nI h) (nI x) (nI i)).bind (fun v17 => (if v17 = 0 then some 0 else some 1)) else (if nI w = 3 then (f_X3_get 4 made (nI i)).bind (fun v21 => some v21) else some (-102))))) = v → f_X6_about kinds worths made (nI x) (nI h) (nI i) (nI w) = v := fun v hv =>
      (bok hkn).trans ((if_neg (by decide)).trans ((bok t1).trans ((if_pos rfl).trans ((bok t2).trans ((if_pos rfl).trans hv)))))
    have p2 : ∀ v, (if nI w = 0 then (rd mk 4 (nI i)).bind (fun v11 => some (v11, says)) else (if nI w = 1 then (rd mt 4 (nI i)).bind (fun v10 => some (v10, says)) else (if nI w = 2 then (f_X7_isContent mw mt (nI i)).bind (fun v7 => (if v7 = 0 then some (0, says) else some (1, says))) else (rd mc 4 (nI i)).bind (fun v6 => some (v6, says))))) = v → f_X7_heirNow (nI h) mk mw mt mc says (nI i) (nI w) = v := fun v hv =>
      (if_pos (slt (a := w) (b := 20))).trans ((if_pos (slt (a := w) (b := 10))).trans hv)
    by_cases c0 : w = 0
    · subst c0
      refine ⟨nI (K i), says, p1 _ ((if_pos rfl).trans ((bok (get_ok (i := i))).trans ?_)), p2 _ ((if_pos rfl).trans ((bok (rd_ok (i := i))).trans ?_))⟩
      · rw [(hK i hi).1]
      · rw [(hK2 i hi).1]
    · by_cases c1 : w = 1
      · subst c1
        refine ⟨nI (dg h x i), says, p1 _ ((if_neg (by decide)).trans ((if_pos rfl).trans ((bok (thingOf_ok hh hx.1 hi)).trans rfl))), p2 _ ((if_neg (by decide)).trans ((if_pos rfl).trans ((bok (rd_ok (i := i))).trans ?_)))⟩
        rw [hT i hi]
      · by_cases c2 : w = 2
        · subst c2
          by_cases q : W (4 * i + dg h x i) < 5
          · refine ⟨0, says, p1 _ ((if_neg (by decide)).trans ((if_neg (by decide)).trans ((if_pos rfl).trans ((bok (content_ok hW hh hx.1 hi)).trans ?_)))), p2 _ ((if_neg (by decide)).trans ((if_neg (by decide)).trans ((if_pos rfl).trans ((bok (mcontent_ok hW2 hh hT hi)).trans ?_))))⟩
            · rw [if_pos q]; exact if_pos rfl
            · rw [if_pos q]; exact if_pos rfl
          · refine ⟨1, says, p1 _ ((if_neg (by decide)).trans ((if_neg (by decide)).trans ((if_pos rfl).trans ((bok (content_ok hW hh hx.1 hi)).trans ?_)))), p2 _ ((if_neg (by decide)).trans ((if_neg (by decide)).trans ((if_pos rfl).trans ((bok (mcontent_ok hW2 hh hT hi)).trans ?_))))⟩
            · rw [if_neg q]; exact if_neg (by decide)
            · rw [if_neg q]; exact if_neg (by decide)
        · have c3 : w = 3 := by omega
          subst c3
          refine ⟨mc i, says, p1 _ ((if_neg (by decide)).trans ((if_neg (by decide)).trans ((if_neg (by decide)).trans ((if_pos rfl).trans ((bok (get_ok (i := i))).trans ?_))))), p2 _ ((if_neg (by decide)).trans ((if_neg (by decide)).trans ((if_neg (by decide)).trans ((bok (rd_ok (i := i))).trans rfl))))⟩
          rw [hm i hi]
  · rw [if_pos c] at t1
    have e1 : nI w - 10 = nI (w - 10) := pk_sub (b := 10) (by omega)
    refine ⟨nI (W (4 * i + (w - 10))), says, ?_, ?_⟩
    · refine (bok hkn).trans ((if_neg (by decide)).trans ((bok t1).trans ((if_neg (by decide)).trans ?_)))
      rw [e1]
      refine (bok (at_ok (i := i) (t := w - 10))).trans ?_
      rw [(hW (4 * i + (w - 10)) (by omega)).1]
    · refine (if_pos (slt (a := w) (b := 20))).trans ((if_neg (snlt (a := w) (b := 10))).trans ?_)
      rw [t4n, show nI (4 * i + w) - 10 = nI (4 * i + (w - 10)) from by rw [show 4 * i + (w - 10) = 4 * i + w - 10 by omega]; exact pk_sub (b := 10) (by omega)]
      refine (bok (rd_ok (i := 4 * i + (w - 10)))).trans ?_
      rw [(hW2 (4 * i + (w - 10)) (by omega)).1]
  · rw [if_neg (by omega)] at t1
    rw [if_pos c.1] at t2
    have e1 : nI w - 20 = nI (w - 20) := pk_sub (b := 20) (by omega)
    obtain ⟨s1, hs, q1⟩ := laySays_ok (says := says) hK2 hW2 hh
    refine ⟨nI (sd K W i (w - 20)), s1, ?_, ?_⟩
    · refine (bok hkn).trans ((if_neg (by decide)).trans ((bok t1).trans ((if_pos rfl).trans ((bok t2).trans ((if_neg (by decide)).trans ?_)))))
      rw [e1]
      exact (bok (said_ok hK hW hh hi (by omega))).trans rfl
    · refine (if_neg (snlt (a := w) (b := 20))).trans ?_
      refine (bok (show f_X7_saysNow (nI h) mk mw says (nI i) (nI w - 20) = some (nI (sd K W i (w - 20)), s1) from ?_)).trans rfl
      refine (bok q1).trans ?_
      rw [e1, t4n]
      refine (bok (rd_ok (i := 4 * i + (w - 20)))).trans ?_
      rw [okS_at hs (show w - 20 < 4 by omega) (by omega)]
theorem sub_back {x : Int32} {t k : Nat} (e : x - nI k = nI t) : x = nI (t + k) := by
  have h1 : x - nI k + nI k = nI t + nI k := by rw [e]
  rw [Int32.sub_add_cancel, nI_add] at h1
  exact h1
theorem about_eq {h : Nat} {K W : Nat → Nat} {kinds worths made mk mw mt mc says : Nat → Int32} (hK : okK h K kinds) (hW : okW W worths) (hK2 : okK h K mk) (hW2 : okW W mw) (hh : h ≤ 4) {x : Nat} (hx : okX h x) (hT : okT h x mt) (hm : ∀ i, i < h → made i = mc i) (x1 x2 : Int32) :
    ∃ r g, f_X6_about kinds worths made (nI x) (nI h) x1 x2 = some r ∧ f_X7_about (nI h) mk mw mt mc says x1 x2 = some (r, g) := by
  have M : (f_X7_about (nI h) mk mw mt mc says x1 x2 = f_X7_about_36 (nI h) mk mw mt mc x1 x2 1 says ∧ ∃ w, x2 = nI w ∧ (w < 4 ∨ (10 ≤ w ∧ w < 14) ∨ (20 ≤ w ∧ w < 24))) ∨ (f_X7_about (nI h) mk mw mt mc says x1 x2 = f_X7_about_36 (nI h) mk mw mt mc x1 x2 0 says ∧ (∀ i, i < 4 → x2 ≠ nI (0 + i)) ∧ (∀ i, i < 4 → x2 ≠ nI (10 + i)) ∧ (∀ i, i < 4 → x2 ≠ nI (20 + i))) := by
    rcases within_cases x2 0 4 (by omega) (by omega) with ⟨t, ht, e, w0⟩ | ⟨c0, _, w0⟩
    · exact Or.inl ⟨(bok w0).trans (if_neg (by decide)), 0 + t, e, Or.inl (by omega)⟩
    · rcases within_cases x2 10 4 (by omega) (by omega) with ⟨t, ht, e, w1⟩ | ⟨c1, _, w1⟩
      · exact Or.inl ⟨(bok w0).trans ((if_pos rfl).trans ((bok w1).trans (if_neg (by decide)))), 10 + t, e, Or.inr (Or.inl (by omega))⟩
      · rcases within_cases x2 20 4 (by omega) (by omega) with ⟨t, ht, e, w2⟩ | ⟨c2, _, w2⟩
        · exact Or.inl ⟨(bok w0).trans ((if_pos rfl).trans ((bok w1).trans ((if_pos rfl).trans ((bok w2).trans (if_neg (by decide)))))), 20 + t, e, Or.inr (Or.inr (by omega))⟩
        · exact Or.inr ⟨(bok w0).trans ((if_pos rfl).trans ((bok w1).trans ((if_pos rfl).trans ((bok w2).trans (if_pos rfl))))), c0, c1, c2⟩
  rcases heir_cases x1 hh with ⟨i, hi, e, k1, k2⟩ | ⟨k1, k2⟩
  · rcases M with ⟨m1, w, ew, hw⟩ | ⟨m1, c0, c1, c2⟩
    · obtain ⟨r, g, q1, q2⟩ := about_in (says := says) hK hW hK2 hW2 hh hx hT hm hi hw
      rw [← e, ← ew] at q1 q2
      refine ⟨r, g, q1, m1.trans ?_⟩
      exact (bok k2).trans ((if_neg (by decide)).trans ((if_neg (by decide)).trans ((bok q2).trans rfl)))
    · refine ⟨-102, says, ?_, m1.trans ((bok k2).trans ((if_neg (by decide)).trans (if_pos rfl)))⟩
      have t1 : f_X6_isThing (x2 - 10) = some 0 := by
        rcases thing_cases (x2 - 10) (h := 1) (by omega) (by omega) with ⟨t, ht, et, _, _⟩ | ⟨q, _⟩
        · exact absurd (sub_back (k := 10) et) (by rw [Nat.add_comm]; exact c1 t ht)
        · exact q
      have t2 : f_X6_isThing (x2 - 20) = some 0 := by
        rcases thing_cases (x2 - 20) (h := 1) (by omega) (by omega) with ⟨t, ht, et, _, _⟩ | ⟨q, _⟩
        · exact absurd (sub_back (k := 20) et) (by rw [Nat.add_comm]; exact c2 t ht)
        · exact q
      refine (bok k1).trans ((if_neg (by decide)).trans ((bok t1).trans ((if_pos rfl).trans ((bok t2).trans ((if_pos rfl).trans ?_)))))
      exact (if_neg (c0 0 (by omega))).trans ((if_neg (c0 1 (by omega))).trans ((if_neg (c0 2 (by omega))).trans (if_neg (c0 3 (by omega)))))
  · refine ⟨-101, says, (bok k1).trans (if_pos rfl), ?_⟩
    rcases M with ⟨m1, _⟩ | ⟨m1, _⟩
    · exact m1.trans ((bok k2).trans (if_pos rfl))
    · exact m1.trans ((bok k2).trans (if_pos rfl))
/-! as, has, worth -/
set_option maxRecDepth 20000 in
theorem as_tab : ∀ i, i < 4 → ∀ k, k < 5 → ∀ t, t < 5 → (f_X6_isA (nI k) (nI t)).bind (fun v8 => (if v8 = 0 then some (-1) else some (nI i))) = (if nI t = 0 then some (nI i) else (if nI k = nI t then some (nI i) else (if nI t = 1 then (if nI k = 4 then some (nI i) else some (-1)) else some (-1)))) ∧ ∃ r, (f_X6_isA (nI k) (nI t)).bind (fun v8 => (if v8 = 0 then some (-1) else some (nI i))) = some r := by
  intro i hi k hk t ht
  have h1 : ∀ i, i < 4 → ∀ k, k < 5 → ∀ t, t < 5 → (f_X6_isA (nI k) (nI t)).bind (fun v8 => (if v8 = 0 then some (-1) else some (nI i))) = (if nI t = 0 then some (nI i) else (if nI k = nI t then some (nI i) else (if nI t = 1 then (if nI k = 4 then some (nI i) else some (-1)) else some (-1)))) := by decide +kernel
  refine ⟨h1 i hi k hk t ht, ?_⟩
  rw [h1 i hi k hk t ht]
  repeat' split
  all_goals exact ⟨_, rfl⟩
theorem as_eq {h : Nat} {K : Nat → Nat} {kinds mk : Nat → Int32} (hK : okK h K kinds) (hK2 : okK h K mk) (hh : h ≤ 4) (x1 x2 : Int32) : ∃ r, f_X6_as kinds (nI h) x1 x2 = some r ∧ f_X7_as (nI h) mk x1 x2 = some r := by
  rcases heir_cases x1 hh with ⟨i, hi, e, k1, k2⟩ | ⟨k1, k2⟩
  · subst e
    rcases within_cases x2 0 5 (by omega) (by omega) with ⟨t, ht, e, w⟩ | ⟨c0, c, w⟩
    · rw [Nat.zero_add] at e
      subst e
      obtain ⟨q1, r, q2⟩ := as_tab i (by omega) (K i) (hK i hi).2 t ht
      refine ⟨r, ?_, ?_⟩
      · refine (bok k1).trans ((if_neg (by decide)).trans ((if_neg (snlt (a := t) (b := 0))).trans ((if_pos (slt (a := t) (b := 5))).trans ((bok (get_ok (i := i))).trans ?_))))
        rw [(hK i hi).1]
        exact q2
      · refine (bok k2).trans ((if_neg (by decide)).trans ((bok w).trans ((if_neg (by decide)).trans ((bok (rd_ok (i := i))).trans ?_))))
        rw [(hK2 i hi).1]
        exact q1.symm.trans q2
    · refine ⟨-102, ?_, (bok k2).trans ((if_neg (by decide)).trans ((bok w).trans (if_pos rfl)))⟩
      refine (bok k1).trans ((if_neg (by decide)).trans ?_)
      rcases c with c | c
      · exact if_pos c
      · have a2 := Int32.lt_iff_toInt_lt.mp c
        have a3 : (nI (0 + 5 - 1)).toInt = 4 := rfl
        have q1 : ¬ x2 < 0 := fun q => by
          have a1 := Int32.lt_iff_toInt_lt.mp q
          have a4 : (0 : Int32).toInt = 0 := rfl
          omega
        have q2 : ¬ x2 < 5 := fun q => by
          have a1 := Int32.lt_iff_toInt_lt.mp q
          have a4 : (5 : Int32).toInt = 5 := rfl
          omega
        exact (if_neg q1).trans (if_neg q2)
  · exact ⟨-101, (bok k1).trans (if_pos rfl), (bok k2).trans (if_pos rfl)⟩
theorem has_in {h x t : Nat} (hh : h ≤ 4) (h0 : 0 < h) (hx : okX h x) {mt : Nat → Int32} (hT : okT h x mt) (ht : t < 4) : ∃ r, f_X6_has (nI x) (nI h) (nI t) = some r ∧ f_X7_whoHas (nI h) mt (nI t) = some r := by
  obtain ⟨r, q1, q2⟩ := owner_eq hh hx hT ht
  refine ⟨r, ?_, q2⟩
  refine (bok (show f_X6_isThing (nI t) = some 1 from (if_neg (snlt (a := t) (b := 0))).trans (if_neg (snle (a := 4) (b := t))))).trans ((if_neg (by decide)).trans ((if_neg (nI_ne0 (by omega) (by omega))).trans ?_))
  exact (bok q1).trans rfl
theorem has_eq {h x : Nat} (hh : h ≤ 4) (hx : okX h x) {mt : Nat → Int32} (hT : okT h x mt) (x1 : Int32) : ∃ r, f_X6_has (nI x) (nI h) x1 = some r ∧ f_X7_has (nI h) mt x1 = some r := by
  by_cases h0 : h = 0
  · subst h0
    refine ⟨-101, ?_, (bok (show f_X7_isThing (nI 0) x1 = some 0 from if_pos (sle (a := 0) (b := 0)))).trans (if_pos rfl)⟩
    rcases thing_cases x1 (h := 1) (by omega) (by omega) with ⟨t, ht, e, t1, t2⟩ | ⟨t1, t2⟩
    · exact (bok t1).trans ((if_neg (by decide)).trans (if_pos rfl))
    · exact (bok t1).trans (if_pos rfl)
  · rcases thing_cases x1 hh (by omega) with ⟨t, ht, e, t1, t2⟩ | ⟨t1, t2⟩
    · obtain ⟨r, q1, q2⟩ := has_in hh (by omega) hx hT ht
      rw [← e] at q1 q2
      exact ⟨r, q1, (bok t2).trans ((if_neg (by decide)).trans ((bok q2).trans rfl))⟩
    · exact ⟨-101, (bok t1).trans (if_pos rfl), (bok t2).trans (if_pos rfl)⟩
theorem worth_eq {h : Nat} {W : Nat → Nat} {worths mw : Nat → Int32} (hW : okW W worths) (hW2 : okW W mw) (hh : h ≤ 4) (x1 x2 x3 : Int32) : ∃ r W' g g', okW W' g ∧ okW W' g' ∧ f_X6_worth worths (nI h) x1 x2 x3 = some (r, g) ∧ f_X7_worth (nI h) mw x1 x2 x3 = some (r, g') := by
  rcases heir_cases x1 hh with ⟨i, hi, e, k1, k2⟩ | ⟨k1, k2⟩
  · subst e
    rcases thing_cases x2 hh (by omega) with ⟨t, ht, e, t1, t2⟩ | ⟨t1, t2⟩
    · subst e
      rcases within_cases x3 0 10 (by omega) (by omega) with ⟨v, hv, e, w⟩ | ⟨c0, c, w⟩
      · rw [Nat.zero_add] at e
        subst e
        refine ⟨nI (W (4 * i + t)), upK W (4 * i + t) v, upd worths (4 * i + t) (nI v), upd mw (4 * i + t) (nI v), okW_up hW (by omega), okW_up hW2 (by omega), ?_, ?_⟩
        · refine (bok k1).trans ((if_neg (by decide)).trans ((bok t1).trans ((if_neg (by decide)).trans ((if_neg (snlt (a := v) (b := 0))).trans ((if_pos (sle (a := v) (b := 9))).trans ((bok (at_ok (i := i) (t := t))).trans ((bok (put_ok (i := i) (t := t))).trans ?_)))))))
          rw [(hW (4 * i + t) (by omega)).1]
        · refine (bok k2).trans ((if_neg (by decide)).trans ((bok t2).trans ((if_neg (by decide)).trans ((bok w).trans ((if_neg (by decide)).trans ?_)))))
          rw [t4n]
          refine (bok (rd_ok (i := 4 * i + t))).trans ((bok (wr_ok (i := 4 * i + t))).trans ?_)
          rw [(hW2 (4 * i + t) (by omega)).1]
      · refine ⟨-102, W, worths, mw, hW, hW2, ?_, (bok k2).trans ((if_neg (by decide)).trans ((bok t2).trans ((if_neg (by decide)).trans ((bok w).trans (if_pos rfl)))))⟩
        refine (bok k1).trans ((if_neg (by decide)).trans ((bok t1).trans ((if_neg (by decide)).trans ?_)))
        rcases c with c | c
        · exact if_pos c
        · have a2 := Int32.lt_iff_toInt_lt.mp c
          have a3 : (nI (0 + 10 - 1)).toInt = 9 := rfl
          have q1 : ¬ x3 < 0 := fun q => by
            have a1 := Int32.lt_iff_toInt_lt.mp q
            have a4 : (0 : Int32).toInt = 0 := rfl
            omega
          have q2 : ¬ x3 ≤ 9 := fun q => by
            have a1 := Int32.le_iff_toInt_le.mp q
            have a4 : (9 : Int32).toInt = 9 := rfl
            omega
          exact (if_neg q1).trans (if_neg q2)
    · exact ⟨-101, W, worths, mw, hW, hW2, (bok k1).trans ((if_neg (by decide)).trans ((bok t1).trans (if_pos rfl))), (bok k2).trans ((if_neg (by decide)).trans ((bok t2).trans (if_pos rfl)))⟩
  · exact ⟨-101, W, worths, mw, hW, hW2, (bok k1).trans (if_pos rfl), (bok k2).trans (if_pos rfl)⟩
/-! deal, may, change -/
theorem cdeal_eq {h : Nat} {K W : Nat → Nat} {kinds worths mk mw things says dealt : Nat → Int32} (hK : okK h K kinds) (hW : okW W worths) (hK2 : okK h K mk) (hW2 : okW W mw) (hh : h ≤ 4) {x : Nat} (hx : okX h x) (hT : okT h x things) : ∃ (r : Int32) (y : Nat) (g s e : Nat → Int32), okX h y ∧ okT h y g ∧ f_X6_deal kinds worths (nI x) (nI h) = some (r, nI y) ∧ f_X7_deal (nI h) mk mw things says dealt = some (r, g, s, e) := by
  by_cases h0 : h = 0
  · subst h0
    exact ⟨-103, x, things, says, dealt, hx, hT, if_pos rfl, if_pos rfl⟩
  · obtain ⟨r, y, g, s, e, q1, q2, q3, q4, q5⟩ := deal_eq (says := says) (dealt := dealt) hK hW hK2 hW2 hh hx hT
    refine ⟨r, y, g, s, e, q1, q2, ?_, ?_⟩
    · exact (if_neg (nI_ne0 (by omega) (by omega))).trans ((bok q3).trans ((bok q4).trans rfl))
    · exact (if_neg (nI_ne0 (by omega) (by omega))).trans ((bok q5).trans rfl)
theorem two_cases (x1 x2 : Int32) {h : Nat} (hh : h ≤ 4) : (∃ a b, a < h ∧ b < h ∧ a ≠ b ∧ x1 = nI a ∧ x2 = nI b ∧ f_X6_areTwo (nI h) x1 x2 = some 1 ∧ f_X7_areTwo (nI h) x1 x2 = some 1) ∨ (f_X6_areTwo (nI h) x1 x2 = some 0 ∧ f_X7_areTwo (nI h) x1 x2 = some 0) := by
  rcases heir_cases x1 hh with ⟨a, ha, e, k1, k2⟩ | ⟨k1, k2⟩
  · rcases heir_cases x2 hh with ⟨b, hb, e2, k3, k4⟩ | ⟨k3, k4⟩
    · by_cases c : x1 = x2
      · exact Or.inr ⟨(bok k1).trans ((if_neg (by decide)).trans ((bok k3).trans ((if_neg (by decide)).trans (if_pos c)))), (bok k2).trans ((if_neg (by decide)).trans ((bok k4).trans ((if_neg (by decide)).trans (if_pos c))))⟩
      · exact Or.inl ⟨a, b, ha, hb, fun q => c (by rw [e, e2, q]), e, e2, (bok k1).trans ((if_neg (by decide)).trans ((bok k3).trans ((if_neg (by decide)).trans (if_neg c)))), (bok k2).trans ((if_neg (by decide)).trans ((bok k4).trans ((if_neg (by decide)).trans (if_neg c))))⟩
    · exact Or.inr ⟨(bok k1).trans ((if_neg (by decide)).trans ((bok k3).trans (if_pos rfl))), (bok k2).trans ((if_neg (by decide)).trans ((bok k4).trans (if_pos rfl)))⟩
  · exact Or.inr ⟨(bok k1).trans (if_pos rfl), (bok k2).trans (if_pos rfl)⟩
theorem may_eq {h : Nat} {K W : Nat → Nat} {kinds worths mk mw things says : Nat → Int32} (hK : okK h K kinds) (hW : okW W worths) (hK2 : okK h K mk) (hW2 : okW W mw) (hh : h ≤ 4) {x : Nat} (hx : okX h x) (hT : okT h x things) (x1 x2 : Int32) : ∃ r g, f_X6_may kinds worths (nI x) (nI h) x1 x2 = some r ∧ f_X7_may (nI h) mk mw things says x1 x2 = some (r, g) := by
  rcases two_cases x1 x2 hh with ⟨a, b, ha, hb, hab, e1, e2, k1, k2⟩ | ⟨k1, k2⟩
  · subst e1; subst e2
    obtain ⟨g, q⟩ := mayNow_ok (says := says) hK2 hW2 hh hT ha hb
    exact ⟨nI (mv K W h x a b), g, (bok k1).trans ((if_neg (by decide)).trans ((bok (mayIn_ok hK hW hh hx.1 ha hb)).trans rfl)), (bok k2).trans ((if_neg (by decide)).trans ((bok q).trans rfl))⟩
  · exact ⟨-101, says, (bok k1).trans (if_pos rfl), (bok k2).trans (if_pos rfl)⟩
theorem change_eq {h : Nat} {K W : Nat → Nat} {kinds worths made mk mw things mc says : Nat → Int32} (hK : okK h K kinds) (hW : okW W worths) (hK2 : okK h K mk) (hW2 : okW W mw) (hh : h ≤ 4) {x : Nat} (hx : okX h x) (hT : okT h x things) (hm : ∀ i, i < h → made i = mc i) (ch : Int32) (x1 x2 : Int32) : ∃ r y ch' g t c s, okX h y ∧ okT h y t ∧ (∀ i, i < h → g i = c i) ∧ f_X6_change kinds worths made (nI x) ch (nI h) x1 x2 = some (r, g, nI y, ch') ∧ f_X7_change (nI h) mk mw things mc ch says x1 x2 = some (r, t, c, ch', s) := by
  rcases two_cases x1 x2 hh with ⟨a, b, ha, hb, hab, e1, e2, k1, k2⟩ | ⟨k1, k2⟩
  · subst e1; subst e2
    obtain ⟨s, q⟩ := mayNow_ok (says := says) hK2 hW2 hh hT ha hb
    have hmv := mv_le K W h x a b
    by_cases c : 2 ≤ mv K W h x a b
    · refine ⟨ch + 1, swp h x a b, ch + 1, upd (upd made a (made a + 1)) b (upd made a (made a + 1) b + 1), upd (upd things a (things b)) b (things a), upd (upd mc a (mc a + 1)) b (upd mc a (mc a + 1) b + 1), s, okX_swp hh hx ha hb hab, okT_swp hh hx.1 ha hb hab hT, fun i hi => ?_, ?_, ?_⟩
      · by_cases cb : i = b
        · subst cb
          rw [us, us, un (by omega), un (by omega), hm i hi]
        · rw [un cb, un cb]
          by_cases ca : i = a
          · subst ca
            rw [us, us, hm i hi]
          · rw [un ca, un ca]; exact hm i hi
      · refine (bok k1).trans ((if_neg (by decide)).trans ((bok (mayIn_ok hK hW hh hx.1 ha hb)).trans ((if_pos (sle (a := 2) (b := mv K W h x a b))).trans ((bok (changed_ok hh hx.1 ha hb)).trans ?_))))
        refine (bok (show f_X4_noteChange made ch (nI a) (nI b) = some (upd (upd made a (made a + 1)) b (upd made a (made a + 1) b + 1), ch + 1) from ?_)).trans rfl
        exact (bok (get_ok (i := a))).trans ((bok (set_ok (i := a))).trans ((bok (get_ok (i := b))).trans ((bok (set_ok (i := b))).trans rfl)))
      · refine (bok k2).trans ((if_neg (by decide)).trans ((bok q).trans ((if_pos (sle (a := 2) (b := mv K W h x a b))).trans ?_)))
        exact (bok (rd_ok (i := a))).trans ((bok (rd_ok (i := b))).trans ((bok (wr_ok (i := a))).trans ((bok (wr_ok (i := b))).trans ((bok (rd_ok (i := a))).trans ((bok (wr_ok (i := a))).trans ((bok (rd_ok (i := b))).trans ((bok (wr_ok (i := b))).trans rfl)))))))
    · refine ⟨-103, x, ch, made, things, mc, s, hx, hT, hm, ?_, ?_⟩
      · exact (bok k1).trans ((if_neg (by decide)).trans ((bok (mayIn_ok hK hW hh hx.1 ha hb)).trans (if_neg (snle (a := 2) (b := mv K W h x a b)))))
      · exact (bok k2).trans ((if_neg (by decide)).trans ((bok q).trans (if_neg (snle (a := 2) (b := mv K W h x a b)))))
  · exact ⟨-101, x, ch, made, things, mc, says, hx, hT, hm, (bok k1).trans (if_pos rfl), (bok k2).trans (if_pos rfl)⟩
