/-! ===== image and restore, the reference ===== -/
theorem im16 {hI ww mch mhe ik kwl kc khd : Int32} {mw mt mc go ga gb gm : Nat → Int32} (t c a b d e : Nat → Int32) : ∀ (q f i : Nat) (w : Nat → Int32), q = 16 - i → i ≤ 16 → q < f → (∀ j, j < i → w j = mw j) → ∃ g, (∀ j, j < 16 → g j = mw j) ∧ f_X7_image_41 ww hI mw mt mc mch mhe go ga gb gm f (nI i) ik kwl kc khd w t c a b d e = f_X7_image_67 ww hI mw mt mc mch mhe go ga gb gm 300 0 ik kwl kc khd g t c a b d e := by
  intro q
  induction q with
  | zero =>
    intro f i w hd hi hf hw
    obtain ⟨f, rfl⟩ : ∃ q, f = q + 1 := ⟨f - 1, by omega⟩
    have e : i = 16 := by omega
    subst e
    exact ⟨w, hw, if_pos (sle (a := 16) (b := 16))⟩
  | succ q ih =>
    intro f i w hd hi hf hw
    obtain ⟨f, rfl⟩ : ∃ q, f = q + 1 := ⟨f - 1, by omega⟩
    obtain ⟨g, q1, q2⟩ := ih f (i + 1) (upd w i (mw i)) (by omega) (by omega) (by omega) (fun j hj => by
      by_cases c : j = i
      · rw [c]; exact us
      · rw [un c]; exact hw j (by omega))
    refine ⟨g, q1, ?_⟩
    refine (if_neg (snle (a := 16) (b := i))).trans ?_
    refine (bok (rd_ok (i := i))).trans ((bok (wr_ok (i := i))).trans ?_)
    rw [nI_1]; exact q2
theorem im4 {hI ww mch mhe ik kwl kc khd : Int32} {mw mt mc go ga gb gm : Nat → Int32} (w a b d e : Nat → Int32) : ∀ (q f i : Nat) (t c : Nat → Int32), q = 4 - i → i ≤ 4 → q < f → (∀ j, j < i → t j = mt j) → (∀ j, j < i → c j = mc j) → ∃ t' c', (∀ j, j < 4 → t' j = mt j) ∧ (∀ j, j < 4 → c' j = mc j) ∧ f_X7_image_67 ww hI mw mt mc mch mhe go ga gb gm f (nI i) ik kwl kc khd w t c a b d e = f_X7_image_104 ww hI mw mt mc mch mhe go ga gb gm 300 0 ik kwl kc khd w t' c' a b d e := by
  intro q
  induction q with
  | zero =>
    intro f i t c hd hi hf ht hc
    obtain ⟨f, rfl⟩ : ∃ q, f = q + 1 := ⟨f - 1, by omega⟩
    have e : i = 4 := by omega
    subst e
    exact ⟨t, c, ht, hc, if_pos (sle (a := 4) (b := 4))⟩
  | succ q ih =>
    intro f i t c hd hi hf ht hc
    obtain ⟨f, rfl⟩ : ∃ q, f = q + 1 := ⟨f - 1, by omega⟩
    obtain ⟨t', c', q1, q3, q2⟩ := ih f (i + 1) (upd t i (mt i)) (upd c i (mc i)) (by omega) (by omega) (by omega) (fun j hj => by
      by_cases c : j = i
      · rw [c]; exact us
      · rw [un c]; exact ht j (by omega)) (fun j hj => by
      by_cases c : j = i
      · rw [c]; exact us
      · rw [un c]; exact hc j (by omega))
    refine ⟨t', c', q1, q3, ?_⟩
    refine (if_neg (snle (a := 4) (b := i))).trans ?_
    refine (bok (rd_ok (i := i))).trans ((bok (wr_ok (i := i))).trans ((bok (rd_ok (i := i))).trans ((bok (wr_ok (i := i))).trans ?_)))
    rw [nI_1]; exact q2
theorem im6 {hI ww mch mhe ik kwl kc khd : Int32} {mw mt mc go ga gb gm : Nat → Int32} (w t c : Nat → Int32) : ∀ (q f i : Nat) (a b d e : Nat → Int32), q = 6 - i → i ≤ 6 → q < f → (∀ j, j < i → a j = go j) → (∀ j, j < i → b j = ga j) → (∀ j, j < i → d j = gb j) → (∀ j, j < i → e j = gm j) → ∃ a' b' d' e', (∀ j, j < 6 → a' j = go j) ∧ (∀ j, j < 6 → b' j = ga j) ∧ (∀ j, j < 6 → d' j = gb j) ∧ (∀ j, j < 6 → e' j = gm j) ∧ f_X7_image_104 ww hI mw mt mc mch mhe go ga gb gm f (nI i) ik kwl kc khd w t c a b d e = some (mch, ik, kwl, kc, khd, w, t, c, a', b', d', e') := by
  intro q
  induction q with
  | zero =>
    intro f i a b d e hd hi hf h1 h2 h3 h4
    obtain ⟨f, rfl⟩ : ∃ q, f = q + 1 := ⟨f - 1, by omega⟩
    have ei : i = 6 := by omega
    subst ei
    exact ⟨a, b, d, e, h1, h2, h3, h4, if_pos (sle (a := 6) (b := 6))⟩
  | succ q ih =>
    intro f i a b d e hd hi hf h1 h2 h3 h4
    obtain ⟨f, rfl⟩ : ∃ q, f = q + 1 := ⟨f - 1, by omega⟩
    have up : ∀ (u v : Nat → Int32), (∀ j, j < i → u j = v j) → ∀ j, j < i + 1 → upd u i (v i) j = v j := fun u v hu j hj => by
      by_cases c : j = i
      · rw [c]; exact us
      · rw [un c]; exact hu j (by omega)
    obtain ⟨a', b', d', e', q1, q2, q3, q4, q5⟩ := ih f (i + 1) (upd a i (go i)) (upd b i (ga i)) (upd d i (gb i)) (upd e i (gm i)) (by omega) (by omega) (by omega) (up _ _ h1) (up _ _ h2) (up _ _ h3) (up _ _ h4)
    refine ⟨a', b', d', e', q1, q2, q3, q4, ?_⟩
    refine (if_neg (snle (a := 6) (b := i))).trans ?_
    refine (bok (rd_ok (i := i))).trans ((bok (wr_ok (i := i))).trans ((bok (rd_ok (i := i))).trans ((bok (wr_ok (i := i))).trans ?_)))
    refine (bok (rd_ok (i := i))).trans ((bok (wr_ok (i := i))).trans ((bok (rd_ok (i := i))).trans ((bok (wr_ok (i := i))).trans ?_)))
    rw [nI_1]; exact q5
theorem re16 {ww ik kwl kc0 khd0 kc khd : Int32} {mw mt mc go ga gb gm : Nat → Int32} (t c a b d e : Nat → Int32) : ∀ (q f i : Nat) (w : Nat → Int32), q = 16 - i → i ≤ 16 → q < f → (∀ j, j < i → w j = mw j) → ∃ g, (∀ j, j < 16 → g j = mw j) ∧ f_X7_restore_39 ww ik kwl kc0 khd0 mw mt mc go ga gb gm f (nI i) w t c kc khd a b d e = f_X7_restore_65 ww ik kwl kc0 khd0 mw mt mc go ga gb gm 300 0 g t c kc khd a b d e := by
  intro q
  induction q with
  | zero =>
    intro f i w hd hi hf hw
    obtain ⟨f, rfl⟩ : ∃ q, f = q + 1 := ⟨f - 1, by omega⟩
    have e : i = 16 := by omega
    subst e
    exact ⟨w, hw, if_pos (sle (a := 16) (b := 16))⟩
  | succ q ih =>
    intro f i w hd hi hf hw
    obtain ⟨f, rfl⟩ : ∃ q, f = q + 1 := ⟨f - 1, by omega⟩
    obtain ⟨g, q1, q2⟩ := ih f (i + 1) (upd w i (mw i)) (by omega) (by omega) (by omega) (fun j hj => by
      by_cases c : j = i
      · rw [c]; exact us
      · rw [un c]; exact hw j (by omega))
    refine ⟨g, q1, ?_⟩
    refine (if_neg (snle (a := 16) (b := i))).trans ?_
    refine (bok (rd_ok (i := i))).trans ((bok (wr_ok (i := i))).trans ?_)
    rw [nI_1]; exact q2
theorem re4 {ww ik kwl kc0 khd0 kc khd : Int32} {mw mt mc go ga gb gm : Nat → Int32} (w a b d e : Nat → Int32) : ∀ (q f i : Nat) (t c : Nat → Int32), q = 4 - i → i ≤ 4 → q < f → (∀ j, j < i → t j = mt j) → (∀ j, j < i → c j = mc j) → ∃ t' c', (∀ j, j < 4 → t' j = mt j) ∧ (∀ j, j < 4 → c' j = mc j) ∧ f_X7_restore_65 ww ik kwl kc0 khd0 mw mt mc go ga gb gm f (nI i) w t c kc khd a b d e = f_X7_restore_102 ww ik kwl kc0 khd0 mw mt mc go ga gb gm 300 0 w t' c' kc khd a b d e := by
  intro q
  induction q with
  | zero =>
    intro f i t c hd hi hf ht hc
    obtain ⟨f, rfl⟩ : ∃ q, f = q + 1 := ⟨f - 1, by omega⟩
    have e : i = 4 := by omega
    subst e
    exact ⟨t, c, ht, hc, if_pos (sle (a := 4) (b := 4))⟩
  | succ q ih =>
    intro f i t c hd hi hf ht hc
    obtain ⟨f, rfl⟩ : ∃ q, f = q + 1 := ⟨f - 1, by omega⟩
    obtain ⟨t', c', q1, q3, q2⟩ := ih f (i + 1) (upd t i (mt i)) (upd c i (mc i)) (by omega) (by omega) (by omega) (fun j hj => by
      by_cases c : j = i
      · rw [c]; exact us
      · rw [un c]; exact ht j (by omega)) (fun j hj => by
      by_cases c : j = i
      · rw [c]; exact us
      · rw [un c]; exact hc j (by omega))
    refine ⟨t', c', q1, q3, ?_⟩
    refine (if_neg (snle (a := 4) (b := i))).trans ?_
    refine (bok (rd_ok (i := i))).trans ((bok (wr_ok (i := i))).trans ((bok (rd_ok (i := i))).trans ((bok (wr_ok (i := i))).trans ?_)))
    rw [nI_1]; exact q2
theorem re6 {ww ik kwl kc0 khd0 kc khd : Int32} {mw mt mc go ga gb gm : Nat → Int32} (w t c : Nat → Int32) : ∀ (q f i : Nat) (a b d e : Nat → Int32), q = 6 - i → i ≤ 6 → q < f → (∀ j, j < i → a j = go j) → (∀ j, j < i → b j = ga j) → (∀ j, j < i → d j = gb j) → (∀ j, j < i → e j = gm j) → ∃ a' b' d' e', (∀ j, j < 6 → a' j = go j) ∧ (∀ j, j < 6 → b' j = ga j) ∧ (∀ j, j < 6 → d' j = gb j) ∧ (∀ j, j < 6 → e' j = gm j) ∧ f_X7_restore_102 ww ik kwl kc0 khd0 mw mt mc go ga gb gm f (nI i) w t c kc khd a b d e = some (kc, w, t, c, kc, khd, a', b', d', e') := by
  intro q
  induction q with
  | zero =>
    intro f i a b d e hd hi hf h1 h2 h3 h4
    obtain ⟨f, rfl⟩ : ∃ q, f = q + 1 := ⟨f - 1, by omega⟩
    have ei : i = 6 := by omega
    subst ei
    exact ⟨a, b, d, e, h1, h2, h3, h4, if_pos (sle (a := 6) (b := 6))⟩
  | succ q ih =>
    intro f i a b d e hd hi hf h1 h2 h3 h4
    obtain ⟨f, rfl⟩ : ∃ q, f = q + 1 := ⟨f - 1, by omega⟩
    have up : ∀ (u v : Nat → Int32), (∀ j, j < i → u j = v j) → ∀ j, j < i + 1 → upd u i (v i) j = v j := fun u v hu j hj => by
      by_cases c : j = i
      · rw [c]; exact us
      · rw [un c]; exact hu j (by omega)
    obtain ⟨a', b', d', e', q1, q2, q3, q4, q5⟩ := ih f (i + 1) (upd a i (go i)) (upd b i (ga i)) (upd d i (gb i)) (upd e i (gm i)) (by omega) (by omega) (by omega) (up _ _ h1) (up _ _ h2) (up _ _ h3) (up _ _ h4)
    refine ⟨a', b', d', e', q1, q2, q3, q4, ?_⟩
    refine (if_neg (snle (a := 6) (b := i))).trans ?_
    refine (bok (rd_ok (i := i))).trans ((bok (wr_ok (i := i))).trans ((bok (rd_ok (i := i))).trans ((bok (wr_ok (i := i))).trans ?_)))
    refine (bok (rd_ok (i := i))).trans ((bok (wr_ok (i := i))).trans ((bok (rd_ok (i := i))).trans ((bok (wr_ok (i := i))).trans ?_)))
    rw [nI_1]; exact q5
theorem image_eq {h : Nat} {w ma ho ha hb hm mw mt mc go ga gb gm kw kma kho kha khb khm nw nt nc no na nb nm : Nat → Int32} {lie ch he mch mhe klie kch khe ik kwl kc khd : Int32} (hh : h ≤ 4) (h0 : 0 < h) (s : SD h w ma ho ha hb hm lie ch he mw mt mc go ga gb gm mch mhe) (rr kr ww : Int32) :
    ∃ w' ma' ho' ha' hb' hm' mw' mt' mc' go' ga' gb' gm', SD h w' ma' ho' ha' hb' hm' lie ch he mw' mt' mc' go' ga' gb' gm' mch mhe ∧ f_X6_image w ma ho ha hb hm lie ch he (nI h) kw kma kho kha khb khm klie kch khe rr kr = some (ch, w', ma', ho', ha', hb', hm', lie, ch, he, rr) ∧ f_X7_image ww (nI h) mw mt mc mch mhe go ga gb gm ik kwl kc khd nw nt nc no na nb nm = some (mch, 1, ww, mch, mhe, mw', mt', mc', go', ga', gb', gm') := by
  obtain ⟨w', ma', ho', ha', hb', hm', a1, a2, a3, a4, a5, a6, a7⟩ := take4_ok kw kma kho kha khb khm klie kch khe w ma ho ha hb hm lie ch he
  obtain ⟨mw', b1, b2⟩ := im16 (hI := nI h) (ww := ww) (mch := mch) (mhe := mhe) (ik := 1) (kwl := ww) (kc := mch) (khd := mhe) (mw := mw) (mt := mt) (mc := mc) (go := go) (ga := ga) (gb := gb) (gm := gm) nt nc no na nb nm 16 300 0 nw (by omega) (by omega) (by omega) (fun j hj => absurd hj (by omega))
  obtain ⟨mt', mc', c1, c2, c3⟩ := im4 (hI := nI h) (ww := ww) (mch := mch) (mhe := mhe) (ik := 1) (kwl := ww) (kc := mch) (khd := mhe) (mw := mw) (mt := mt) (mc := mc) (go := go) (ga := ga) (gb := gb) (gm := gm) mw' no na nb nm 4 300 0 nt nc (by omega) (by omega) (by omega) (fun j hj => absurd hj (by omega)) (fun j hj => absurd hj (by omega))
  obtain ⟨go', ga', gb', gm', d1, d2, d3, d4, d5⟩ := im6 (hI := nI h) (ww := ww) (mch := mch) (mhe := mhe) (ik := 1) (kwl := ww) (kc := mch) (khd := mhe) (mw := mw) (mt := mt) (mc := mc) (go := go) (ga := ga) (gb := gb) (gm := gm) mw' mt' mc' 6 300 0 no na nb nm (by omega) (by omega) (by omega) (fun j hj => absurd hj (by omega)) (fun j hj => absurd hj (by omega)) (fun j hj => absurd hj (by omega)) (fun j hj => absurd hj (by omega))
  refine ⟨w', ma', ho', ha', hb', hm', mw', mt', mc', go', ga', gb', gm', SD_cg hh s a1 a2 a3 a4 a5 a6 b1 c1 c2 d1 d2 d3 d4, ?_, ?_⟩
  · exact (if_neg (nI_ne0 h0 (by omega))).trans ((bok a7).trans rfl)
  · exact (if_neg (nI_ne0 h0 (by omega))).trans (b2.trans (c3.trans d5))
theorem restore_eq {h : Nat} {w ma ho ha hb hm mw mt mc go ga gb gm kw kma kho kha khb khm nw nt nc no na nb nm : Nat → Int32} {lie ch he mch mhe klie kch khe kc khd : Int32} (hh : h ≤ 4) (s : SD h kw kma kho kha khb khm klie kch khe nw nt nc no na nb nm kc khd) {rr kr ww kwl : Int32} (h1 : kr ≠ 0) (h2 : kr = rr) (h3 : kwl = ww) :
    ∃ w' ma' ho' ha' hb' hm' mw' mt' mc' go' ga' gb' gm', SD h w' ma' ho' ha' hb' hm' klie kch khe mw' mt' mc' go' ga' gb' gm' kc khd ∧ f_X6_restore w ma ho ha hb hm lie ch he kw kma kho kha khb khm klie kch khe rr kr = some (kch, w', ma', ho', ha', hb', hm', klie, kch, khe) ∧ f_X7_restore ww mw mt mc mch mhe go ga gb gm 1 kwl kc khd nw nt nc no na nb nm = some (kc, mw', mt', mc', kc, khd, go', ga', gb', gm') := by
  obtain ⟨w', ma', ho', ha', hb', hm', a1, a2, a3, a4, a5, a6, a7⟩ := take4_ok w ma ho ha hb hm lie ch he kw kma kho kha khb khm klie kch khe
  obtain ⟨mw', b1, b2⟩ := re16 (ww := ww) (ik := 1) (kwl := kwl) (kc0 := kc) (khd0 := khd) (kc := kc) (khd := khd) (mw := nw) (mt := nt) (mc := nc) (go := no) (ga := na) (gb := nb) (gm := nm) mt mc go ga gb gm 16 300 0 mw (by omega) (by omega) (by omega) (fun j hj => absurd hj (by omega))
  obtain ⟨mt', mc', c1, c2, c3⟩ := re4 (ww := ww) (ik := 1) (kwl := kwl) (kc0 := kc) (khd0 := khd) (kc := kc) (khd := khd) (mw := nw) (mt := nt) (mc := nc) (go := no) (ga := na) (gb := nb) (gm := nm) mw' go ga gb gm 4 300 0 mt mc (by omega) (by omega) (by omega) (fun j hj => absurd hj (by omega)) (fun j hj => absurd hj (by omega))
  obtain ⟨go', ga', gb', gm', d1, d2, d3, d4, d5⟩ := re6 (ww := ww) (ik := 1) (kwl := kwl) (kc0 := kc) (khd0 := khd) (kc := kc) (khd := khd) (mw := nw) (mt := nt) (mc := nc) (go := no) (ga := na) (gb := nb) (gm := nm) mw' mt' mc' 6 300 0 go ga gb gm (by omega) (by omega) (by omega) (fun j hj => absurd hj (by omega)) (fun j hj => absurd hj (by omega)) (fun j hj => absurd hj (by omega)) (fun j hj => absurd hj (by omega))
  refine ⟨w', ma', ho', ha', hb', hm', mw', mt', mc', go', ga', gb', gm', SD_cg hh s a1 a2 a3 a4 a5 a6 b1 c1 c2 d1 d2 d3 d4, ?_, ?_⟩
  · exact (if_neg h1).trans ((if_pos h2).trans ((bok a7).trans rfl))
  · exact (if_neg (by decide)).trans ((if_pos h3).trans (b2.trans (c3.trans d5)))
