/-! ===== more calls, both sides ===== -/
theorem kn_ok {h i : Nat} (hh : h ≤ 4) (hi : i < h) : f_X1_knows (nI h) (nI i) = some 1 := (if_neg (snlt (a := i) (b := 0))).trans (if_neg (snle (a := h) (b := i)))
theorem th_ok {t : Nat} (ht : t < 4) : f_X6_isThing (nI t) = some 1 := (if_neg (snlt (a := t) (b := 0))).trans (if_neg (snle (a := 4) (b := t)))
/-! ends -/
theorem ends_in {K W : Nat → Nat} {kinds worths mk mw mt says far lies steps : Nat → Int32} {h x0 : Nat} (hK : okK h K kinds) (hW : okW W worths) (hK2 : okK h K mk) (hW2 : okW W mw) (hh : h ≤ 4) (h1 : 0 < h) (h0 : okX h x0) (hT : okT h x0 mt) (r0 n0 gI lI wI am om ol oe : Int32) {w : Nat} (hw : w < 4) :
    ∃ (r : Int32) (lies' steps' says' far' : Nat → Int32) (m' a b c e : Int32), f_X6_ends kinds worths (nI x0) (nI h) lies steps r0 n0 gI lI wI (nI w) = some (r, lies', steps', m', a, b, c, e) ∧ f_X7_endsNow (nI h) mk mw mt says far am om ol oe (nI w) = some (r, says', far', a, b, c, e) := by
  obtain ⟨lies', steps', says', far', m', a, b, c, e, q1, q2⟩ := ends_four (says := says) (far := far) (lies := lies) (steps := steps) hK hW hK2 hW2 hh h1 h0 hT r0 n0 gI lI wI am om ol oe
  have pre : ∀ v, (if nI w = 0 then some (a, lies', steps', m', a, b, c, e) else (if nI w = 1 then some (b, lies', steps', m', a, b, c, e) else (if nI w = 2 then some (c, lies', steps', m', a, b, c, e) else some (e, lies', steps', m', a, b, c, e)))) = v → f_X6_ends kinds worths (nI x0) (nI h) lies steps r0 n0 gI lI wI (nI w) = v := fun v hv =>
    (if_neg (snlt (a := w) (b := 0))).trans ((if_pos (sle (a := w) (b := 3))).trans ((if_neg (nI_ne0 h1 (by omega))).trans ((bok q1).trans hv)))
  have mpre : ∀ v, (if nI w = 0 then some (a, says', far', a, b, c, e) else (if nI w = 1 then some (b, says', far', a, b, c, e) else (if nI w = 2 then some (c, says', far', a, b, c, e) else some (e, says', far', a, b, c, e)))) = v → f_X7_endsNow (nI h) mk mw mt says far am om ol oe (nI w) = v := fun v hv => (bok q2).trans hv
  rcases (show w = 0 ∨ w = 1 ∨ w = 2 ∨ w = 3 by omega) with rfl | rfl | rfl | rfl
  · exact ⟨a, lies', steps', says', far', m', a, b, c, e, pre _ (if_pos rfl), mpre _ (if_pos rfl)⟩
  · exact ⟨b, lies', steps', says', far', m', a, b, c, e, pre _ ((if_neg (by decide)).trans (if_pos rfl)), mpre _ ((if_neg (by decide)).trans (if_pos rfl))⟩
  · exact ⟨c, lies', steps', says', far', m', a, b, c, e, pre _ ((if_neg (by decide)).trans ((if_neg (by decide)).trans (if_pos rfl))), mpre _ ((if_neg (by decide)).trans ((if_neg (by decide)).trans (if_pos rfl)))⟩
  · exact ⟨e, lies', steps', says', far', m', a, b, c, e, pre _ ((if_neg (by decide)).trans ((if_neg (by decide)).trans (if_neg (by decide)))), mpre _ ((if_neg (by decide)).trans ((if_neg (by decide)).trans (if_neg (by decide))))⟩
/-- a number above a small bound is not below, and not at most, it -/
theorem ab_lt {x : Int32} {n k : Nat} (c : nI n < x) (hk : k ≤ n + 1) (hn : n < 1000) : ¬ x < nI k := fun q => by
  have a1 := Int32.lt_iff_toInt_lt.mp q
  have a2 := Int32.lt_iff_toInt_lt.mp c
  rw [nI_toInt (by omega)] at a1
  rw [nI_toInt (by omega)] at a2
  omega
theorem ab_le {x : Int32} {n k : Nat} (c : nI n < x) (hk : k ≤ n) (hn : n < 1000) : ¬ x ≤ nI k := fun q => by
  have a1 := Int32.le_iff_toInt_le.mp q
  have a2 := Int32.lt_iff_toInt_lt.mp c
  rw [nI_toInt (by omega)] at a1
  rw [nI_toInt (by omega)] at a2
  omega
theorem cends_eq {K W : Nat → Nat} {kinds worths mk mw mt says far lies steps : Nat → Int32} {h x0 : Nat} (hK : okK h K kinds) (hW : okW W worths) (hK2 : okK h K mk) (hW2 : okW W mw) (hh : h ≤ 4) (h0 : okX h x0) (hT : okT h x0 mt) (r0 n0 gI lI wI am om ol oe x1 : Int32) :
    ∃ (r : Int32) (lies' steps' says' far' : Nat → Int32) (m' a b c e a' b' c' e' : Int32), f_X6_ends kinds worths (nI x0) (nI h) lies steps r0 n0 gI lI wI x1 = some (r, lies', steps', m', a, b, c, e) ∧ f_X7_ends (nI h) mk mw mt says far am om ol oe x1 = some (r, says', far', a', b', c', e') := by
  rcases within_cases x1 0 4 (by omega) (by omega) with ⟨w, hw, e, wi⟩ | ⟨_, c, wi⟩
  · rw [Nat.zero_add] at e
    subst e
    by_cases hz : h = 0
    · subst hz
      refine ⟨-103, lies, steps, says, far, r0, n0, gI, lI, wI, am, om, ol, oe, ?_, ?_⟩
      · exact (if_neg (snlt (a := w) (b := 0))).trans ((if_pos (sle (a := w) (b := 3))).trans (if_pos rfl))
      · exact (bok wi).trans ((if_neg (by decide)).trans (if_pos rfl))
    · obtain ⟨r, lies', steps', says', far', m', a, b, c, e, q1, q2⟩ := ends_in (says := says) (far := far) (lies := lies) (steps := steps) hK hW hK2 hW2 hh (by omega) h0 hT r0 n0 gI lI wI am om ol oe hw
      refine ⟨r, lies', steps', says', far', m', a, b, c, e, a, b, c, e, q1, ?_⟩
      exact (bok wi).trans ((if_neg (by decide)).trans ((if_neg (nI_ne0 (by omega) (by omega))).trans ((bok q2).trans rfl)))
  · refine ⟨-102, lies, steps, says, far, r0, n0, gI, lI, wI, am, om, ol, oe, ?_, (bok wi).trans (if_pos rfl)⟩
    rcases c with c | c
    · exact if_pos c
    · exact (if_neg (ab_lt (n := 3) (k := 0) c (by omega) (by omega))).trans (if_neg (ab_le (n := 3) (k := 3) c (by omega) (by omega)))
/-! served -/
theorem cserved_eq {h : Nat} {K W : Nat → Nat} {kinds worths mk mw says dealt : Nat → Int32} (hK : okK h K kinds) (hW : okW W worths) (hK2 : okK h K mk) (hW2 : okW W mw) (hh : h ≤ 4) (x1 x2 : Int32) : ∃ r g g' s e, okK h K g ∧ okK h K g' ∧ f_X6_served kinds worths (nI h) x1 x2 = some (r, g) ∧ f_X7_served (nI h) mk mw says dealt x1 x2 = some (r, g', s, e) := by
  rcases heir_cases x1 hh with ⟨i, hi, e, k1, k2⟩ | ⟨k1, k2⟩
  · subst e
    rcases within_cases x2 0 2 (by omega) (by omega) with ⟨w, hw, e, wi⟩ | ⟨_, c, wi⟩
    · rw [Nat.zero_add] at e
      subst e
      obtain ⟨g, g1, g2⟩ := cserved_ok hK hW hh hi (nI w)
      obtain ⟨g', s, e, q1, q2⟩ := servedNow_ok (says := says) (dealt := dealt) hK2 hW2 hh hi (nI w)
      refine ⟨_, g, g', s, e, g1, q1, ?_, (bok k2).trans ((if_neg (by decide)).trans ((bok wi).trans ((if_neg (by decide)).trans ((bok q2).trans rfl))))⟩
      exact (bok k1).trans ((if_neg (by decide)).trans ((if_neg (snlt (a := w) (b := 0))).trans ((if_pos (sle (a := w) (b := 1))).trans g2)))
    · refine ⟨-102, kinds, mk, says, dealt, hK, hK2, ?_, (bok k2).trans ((if_neg (by decide)).trans ((bok wi).trans (if_pos rfl)))⟩
      refine (bok k1).trans ((if_neg (by decide)).trans ?_)
      rcases c with c | c
      · exact if_pos c
      · exact (if_neg (ab_lt (n := 1) (k := 0) c (by omega) (by omega))).trans (if_neg (ab_le (n := 1) (k := 1) c (by omega) (by omega)))
  · exact ⟨-101, kinds, mk, says, dealt, hK, hK2, (bok k1).trans (if_pos rfl), (bok k2).trans (if_pos rfl)⟩
/-! worst -/
theorem cworst_eq {W : Nat → Nat} {worths mw : Nat → Int32} (hW : okW W worths) (hW2 : okW W mw) {h : Nat} (h2 : h = 0 ∨ 2 ≤ h) (hh : h ≤ 4) (x1 : Int32) : ∃ r, f_X6_worst worths (nI h) x1 = some r ∧ f_X7_worst (nI h) mw x1 = some r := by
  by_cases c0 : x1 = 0
  · subst c0
    rcases h2 with h2 | h2
    · subst h2
      refine ⟨-103, ?_, (if_pos rfl).trans (if_pos rfl)⟩
      have hneg : ((0 : Int32) - 10) < 0 := by decide
      refine (if_pos hneg).trans ?_
      show f_X6_worst_19 worths (nI 0) 0 (0 - 10) 0 = _
      refine (if_pos (rfl : (0 : Int32) = 0)).trans ?_
      exact if_pos rfl
    · obtain ⟨r, q1, q2⟩ := worst_0 hW hW2 h2 hh
      exact ⟨r, q1, (if_pos rfl).trans ((if_neg (nI_ne0 (by omega) (by omega))).trans ((bok q2).trans rfl))⟩
  · rcases within_cases x1 10 4 (by omega) (by omega) with ⟨i, hi, e, wi⟩ | ⟨cn, c, wi⟩
    · subst e
      rcases h2 with h2 | h2
      · subst h2
        have e10 : nI (10 + i) - 10 = nI i := by
          have := pk_sub (a := 10 + i) (b := 10) (by omega)
          rwa [show 10 + i - 10 = i by omega] at this
        refine ⟨-103, ?_, (if_neg c0).trans ((bok wi).trans ((if_neg (by decide)).trans (if_pos rfl)))⟩
        unfold f_X6_worst
        rw [e10]
        refine (if_neg (snlt (a := i) (b := 0))).trans ((if_neg (snle (a := 4) (b := i))).trans ?_)
        exact (if_neg c0).trans ((if_neg (by decide)).trans (if_pos rfl))
      · obtain ⟨r, q1, q2⟩ := worst_i hW hW2 h2 hh hi
        exact ⟨r, q1, (if_neg c0).trans ((bok wi).trans ((if_neg (by decide)).trans ((if_neg (nI_ne0 (by omega) (by omega))).trans ((bok q2).trans rfl))))⟩
    · refine ⟨-102, ?_, (if_neg c0).trans ((bok wi).trans (if_pos rfl))⟩
      have t18 : f_X6_worst_18 worths (nI h) x1 (x1 - 10) = some (-102) := (if_neg c0).trans (if_pos rfl)
      by_cases d1 : x1 - 10 < 0
      · exact (if_pos d1).trans t18
      · refine (if_neg d1).trans ?_
        rcases pk_ix (x1 - 10) (n := 4) (by omega) with d | d | ⟨j, hj, d⟩
        · exact absurd d d1
        · exact (if_pos d).trans t18
        · exact absurd (sub_back (k := 10) d) (by rw [Nat.add_comm]; exact cn j hj)
/-! hear -/
theorem okH_up {h n : Nat} {o a b m : Nat → Nat} {fo fa fb fm : Nat → Int32} (H : okH h n o a b m fo fa fb fm) {i s t v : Nat} (hi : i < h) (hs : s < 4) (ht : t < 4) (hv : v ≤ 1) : okH h (n + 1) (upK o n i) (upK a n s) (upK b n t) (upK m n v) (upd fo n (nI i)) (upd fa n (nI s)) (upd fb n (nI t)) (upd fm n (nI v)) := by
  intro j hj
  unfold upK
  by_cases c : j = n
  · subst c
    rw [us, us, us, us, if_pos rfl, if_pos rfl, if_pos rfl, if_pos rfl]
    exact ⟨rfl, hi, rfl, hs, rfl, ht, rfl, hv⟩
  · rw [un c, un c, un c, un c, if_neg c, if_neg c, if_neg c, if_neg c]
    exact H j (by omega)
theorem hear_eq {h hn : Nat} {o a b m : Nat → Nat} {fo fa fb fm go ga gb gm : Nat → Int32} (hh : h ≤ 4) (hn6 : hn ≤ 6) (H : okH h hn o a b m fo fa fb fm) (H2 : okH h hn o a b m go ga gb gm) (x1 x2 x3 x4 : Int32) :
    ∃ r hn' o' a' b' m' fo' fa' fb' fm' go' ga' gb' gm', hn' ≤ 6 ∧ okH h hn' o' a' b' m' fo' fa' fb' fm' ∧ okH h hn' o' a' b' m' go' ga' gb' gm' ∧ f_X6_hear fo fa fb fm (nI hn) (nI h) x1 x2 x3 x4 = some (r, fo', fa', fb', fm', nI hn') ∧ f_X7_hear (nI h) (nI hn) go ga gb gm x1 x2 x3 x4 = some (r, nI hn', go', ga', gb', gm') := by
  rcases heir_cases x1 hh with ⟨i, hi, e, k1, k2⟩ | ⟨k1, k2⟩
  · rcases thing_cases x2 hh (by omega) with ⟨s, hs, e2, t1, t2⟩ | ⟨t1, t2⟩
    · rcases thing_cases x3 hh (by omega) with ⟨t, ht, e3, u1, u2⟩ | ⟨u1, u2⟩
      · by_cases c : x2 = x3
        · exact ⟨-101, hn, o, a, b, m, fo, fa, fb, fm, go, ga, gb, gm, hn6, H, H2, (bok k1).trans ((if_neg (by decide)).trans ((bok t1).trans ((if_neg (by decide)).trans ((bok u1).trans ((if_neg (by decide)).trans (if_pos c)))))), (bok k2).trans ((if_neg (by decide)).trans ((bok t2).trans ((if_neg (by decide)).trans ((bok u2).trans ((if_neg (by decide)).trans (if_pos c))))))⟩
        · have p1 : ∀ v, (if nI hn < 6 then (f_X4_noteHeard fo fa fb fm (nI hn) x1 x2 x3 x4).bind (fun (g12, g13, g14, g15, g16) => some (g16, g12, g13, g14, g15, g16)) else some ((-104), fo, fa, fb, fm, nI hn)) = v → f_X6_hear fo fa fb fm (nI hn) (nI h) x1 x2 x3 x4 = v := fun v hv =>
            (bok k1).trans ((if_neg (by decide)).trans ((bok t1).trans ((if_neg (by decide)).trans ((bok u1).trans ((if_neg (by decide)).trans ((if_neg c).trans hv))))))
          have p2 : ∀ v, (if nI hn = 6 then some ((-104), nI hn, go, ga, gb, gm) else (wr go 6 (nI hn) x1).bind (fun g12 => (wr ga 6 (nI hn) x2).bind (fun g13 => (wr gb 6 (nI hn) x3).bind (fun g14 => (if x4 = 0 then f_X7_hear_92 (nI h) 0 (nI hn) (nI hn) g12 g13 g14 gm else f_X7_hear_92 (nI h) 1 (nI hn) (nI hn) g12 g13 g14 gm))))) = v → f_X7_hear (nI h) (nI hn) go ga gb gm x1 x2 x3 x4 = v := fun v hv =>
            (bok k2).trans ((if_neg (by decide)).trans ((bok t2).trans ((if_neg (by decide)).trans ((bok u2).trans ((if_neg (by decide)).trans ((if_neg c).trans hv))))))
          by_cases c6 : hn = 6
          · exact ⟨-104, hn, o, a, b, m, fo, fa, fb, fm, go, ga, gb, gm, hn6, H, H2, p1 _ (if_neg (snlt (a := hn) (b := 6))), p2 _ (if_pos (seq c6))⟩
          · have main : ∀ v : Nat, v ≤ 1 → (∀ g1 g2 g3, (if x4 = 0 then f_X4_noteHeard_54 0 (nI hn) g1 g2 g3 fm (nI hn) else f_X4_noteHeard_54 1 (nI hn) g1 g2 g3 fm (nI hn)) = f_X4_noteHeard_54 (nI v) (nI hn) g1 g2 g3 fm (nI hn)) → (∀ g1 g2 g3, (if x4 = 0 then f_X7_hear_92 (nI h) 0 (nI hn) (nI hn) g1 g2 g3 gm else f_X7_hear_92 (nI h) 1 (nI hn) (nI hn) g1 g2 g3 gm) = f_X7_hear_92 (nI h) (nI v) (nI hn) (nI hn) g1 g2 g3 gm) → ∃ r hn' o' a' b' m' fo' fa' fb' fm' go' ga' gb' gm', hn' ≤ 6 ∧ okH h hn' o' a' b' m' fo' fa' fb' fm' ∧ okH h hn' o' a' b' m' go' ga' gb' gm' ∧ f_X6_hear fo fa fb fm (nI hn) (nI h) x1 x2 x3 x4 = some (r, fo', fa', fb', fm', nI hn') ∧ f_X7_hear (nI h) (nI hn) go ga gb gm x1 x2 x3 x4 = some (r, nI hn', go', ga', gb', gm') := by
              intro v hv w1 w2
              refine ⟨nI (hn + 1), hn + 1, _, _, _, _, _, _, _, _, _, _, _, _, by omega, okH_up H hi hs ht hv, okH_up H2 hi hs ht hv, p1 _ ?_, p2 _ ?_⟩
              · refine (if_pos (slt (a := hn) (b := 6))).trans ?_
                refine (bok (show f_X4_noteHeard fo fa fb fm (nI hn) x1 x2 x3 x4 = some (upd fo hn (nI i), upd fa hn (nI s), upd fb hn (nI t), upd fm hn (nI v), nI (hn + 1)) from ?_)).trans rfl
                rw [e, e2, e3]
                refine (bok (set_ok (i := hn))).trans ((bok (set_ok (i := hn))).trans ((bok (set_ok (i := hn))).trans ?_))
                refine (w1 _ _ _).trans ?_
                refine (bok (set_ok (i := hn))).trans ?_
                rw [nI_1]
              · refine (if_neg (sne (a := hn) (b := 6))).trans ?_
                rw [e, e2, e3]
                refine (bok (wr_ok (i := hn))).trans ((bok (wr_ok (i := hn))).trans ((bok (wr_ok (i := hn))).trans ?_))
                refine (w2 _ _ _).trans ?_
                refine (bok (wr_ok (i := hn))).trans ?_
                rw [nI_1]
            by_cases c4 : x4 = 0
            · exact main 0 (by omega) (fun _ _ _ => if_pos c4) (fun _ _ _ => if_pos c4)
            · exact main 1 (by omega) (fun _ _ _ => if_neg c4) (fun _ _ _ => if_neg c4)
      · exact ⟨-101, hn, o, a, b, m, fo, fa, fb, fm, go, ga, gb, gm, hn6, H, H2, (bok k1).trans ((if_neg (by decide)).trans ((bok t1).trans ((if_neg (by decide)).trans ((bok u1).trans (if_pos rfl))))), (bok k2).trans ((if_neg (by decide)).trans ((bok t2).trans ((if_neg (by decide)).trans ((bok u2).trans (if_pos rfl)))))⟩
    · exact ⟨-101, hn, o, a, b, m, fo, fa, fb, fm, go, ga, gb, gm, hn6, H, H2, (bok k1).trans ((if_neg (by decide)).trans ((bok t1).trans (if_pos rfl))), (bok k2).trans ((if_neg (by decide)).trans ((bok t2).trans (if_pos rfl)))⟩
  · exact ⟨-101, hn, o, a, b, m, fo, fa, fb, fm, go, ga, gb, gm, hn6, H, H2, (bok k1).trans (if_pos rfl), (bok k2).trans (if_pos rfl)⟩
/-! truths, ask -/
theorem ctruths_eq {W : Nat → Nat} {o a b m : Nat → Nat} {h hn : Nat} {worths fo fa fb fm mw go ga gb gm : Nat → Int32} (hW : okW W worths) (hH : okH h hn o a b m fo fa fb fm) (hW2 : okW W mw) (hH2 : okH h hn o a b m go ga gb gm) (hh : h ≤ 4) (hn6 : hn ≤ 6) (x1 x2 : Int32) : ∃ r, f_X6_truths worths fo fa fb fm (nI hn) (nI h) x1 x2 = some r ∧ f_X7_truths (nI h) mw (nI hn) go ga gb gm x1 x2 = some r := by
  rcases heir_cases x1 hh with ⟨i, hi, e, k1, k2⟩ | ⟨k1, k2⟩
  · rcases thing_cases x2 hh (by omega) with ⟨t, ht, e2, t1, t2⟩ | ⟨t1, t2⟩
    · subst e; subst e2
      exact ⟨_, ctruths_ok hW hH hh hn6 hi ht, (bok k2).trans ((if_neg (by decide)).trans ((bok t2).trans ((if_neg (by decide)).trans ((bok (truthsNow_ok hW2 hH2 hh hn6 hi ht)).trans rfl))))⟩
    · exact ⟨-101, (bok k1).trans ((if_neg (by decide)).trans ((bok t1).trans (if_pos rfl))), (bok k2).trans ((if_neg (by decide)).trans ((bok t2).trans (if_pos rfl)))⟩
  · exact ⟨-101, (bok k1).trans (if_pos rfl), (bok k2).trans (if_pos rfl)⟩
theorem cask_eq {W : Nat → Nat} {o a b m : Nat → Nat} {h hn : Nat} {worths fo fa fb fm mw go ga gb gm : Nat → Int32} (hW : okW W worths) (hH : okH h hn o a b m fo fa fb fm) (hW2 : okW W mw) (hH2 : okH h hn o a b m go ga gb gm) (hh : h ≤ 4) (hn6 : hn ≤ 6) (x1 x2 : Int32) : ∃ r, f_X6_ask worths fo fa fb fm (nI hn) (nI h) x1 x2 = some r ∧ f_X7_ask (nI h) mw (nI hn) go ga gb gm x1 x2 = some r := by
  rcases heir_cases x1 hh with ⟨i, hi, e, k1, k2⟩ | ⟨k1, k2⟩
  · rcases thing_cases x2 hh (by omega) with ⟨t, ht, e2, t1, t2⟩ | ⟨t1, t2⟩
    · subst e; subst e2
      obtain ⟨r, q1, q2⟩ := ask_eq hW hH hW2 hH2 hh hn6 hi ht
      exact ⟨r, q1, (bok k2).trans ((if_neg (by decide)).trans ((bok t2).trans ((if_neg (by decide)).trans ((bok q2).trans rfl))))⟩
    · exact ⟨-101, (bok k1).trans ((if_neg (by decide)).trans ((bok t1).trans (if_pos rfl))), (bok k2).trans ((if_neg (by decide)).trans ((bok t2).trans (if_pos rfl)))⟩
  · exact ⟨-101, (bok k1).trans (if_pos rfl), (bok k2).trans (if_pos rfl)⟩
/-! count -/
theorem howMany_eq {W : Nat → Nat} {worths mw mt : Nat → Int32} (hW : okW W worths) (hW2 : okW W mw) {h x : Nat} (hh : h ≤ 4) (hx : okX h x) (hT : okT h x mt) (nn ch he rr x1 : Int32) : ∃ r, f_X6_count nn worths (nI x) ch he (nI h) rr x1 = some r ∧ f_X7_howMany rr (nI h) mw mt ch he nn x1 = some r := by
  by_cases c0 : x1 = 0
  · exact ⟨_, if_pos c0, if_pos c0⟩
  by_cases c1 : x1 = 1
  · exact ⟨_, (if_neg c0).trans ((if_pos c1).trans ((bok (contentIn_ok hW hh hx.1)).trans rfl)), (if_neg c0).trans ((if_pos c1).trans ((bok (contentMany_ok hW2 hh hT)).trans rfl))⟩
  by_cases c2 : x1 = 2
  · exact ⟨_, (if_neg c0).trans ((if_neg c1).trans (if_pos c2)), (if_neg c0).trans ((if_neg c1).trans (if_pos c2))⟩
  by_cases c3 : x1 = 3
  · exact ⟨_, (if_neg c0).trans ((if_neg c1).trans ((if_neg c2).trans ((if_pos c3).trans ((bok (sumOf_ok hW hh hx.1)).trans rfl)))), (if_neg c0).trans ((if_neg c1).trans ((if_neg c2).trans ((if_pos c3).trans ((bok (wayNow_ok hh hT)).trans ((bok (sumBy_ok hW2 hh)).trans rfl)))))⟩
  by_cases c4 : x1 = 4
  · exact ⟨_, (if_neg c0).trans ((if_neg c1).trans ((if_neg c2).trans ((if_neg c3).trans (if_pos c4)))), (if_neg c0).trans ((if_neg c1).trans ((if_neg c2).trans ((if_neg c3).trans (if_pos c4))))⟩
  by_cases c5 : x1 = 5
  · exact ⟨_, (if_neg c0).trans ((if_neg c1).trans ((if_neg c2).trans ((if_neg c3).trans ((if_neg c4).trans (if_pos c5))))), (if_neg c0).trans ((if_neg c1).trans ((if_neg c2).trans ((if_neg c3).trans ((if_neg c4).trans (if_pos c5)))))⟩
  by_cases c6 : x1 = 6
  · exact ⟨_, (if_neg c0).trans ((if_neg c1).trans ((if_neg c2).trans ((if_neg c3).trans ((if_neg c4).trans ((if_neg c5).trans (if_pos c6)))))), (if_neg c0).trans ((if_neg c1).trans ((if_neg c2).trans ((if_neg c3).trans ((if_neg c4).trans ((if_neg c5).trans (if_pos c6))))))⟩
  · exact ⟨_, (if_neg c0).trans ((if_neg c1).trans ((if_neg c2).trans ((if_neg c3).trans ((if_neg c4).trans ((if_neg c5).trans (if_neg c6)))))), (if_neg c0).trans ((if_neg c1).trans ((if_neg c2).trans ((if_neg c3).trans ((if_neg c4).trans ((if_neg c5).trans (if_neg c6))))))⟩
/-! an image, on both sides -/
theorem take3 {n : Nat} (hn : n ≤ 100) {o : Nat → Int32} : ∀ (d f i : Nat) (t : Nat → Int32), d = n - i → i ≤ n → d < f → (∀ j, j < i → t j = o j) → ∃ g, (∀ j, j < n → g j = o j) ∧ f_X3_takeFrom_2 n n o f (nI i) t = some g := by
  intro d
  induction d with
  | zero =>
    intro f i t hd hi hf ht
    obtain ⟨f, rfl⟩ : ∃ q, f = q + 1 := ⟨f - 1, by omega⟩
    have e : i = n := by omega
    subst e
    exact ⟨t, ht, if_pos (sle (a := i) (b := i))⟩
  | succ d ih =>
    intro f i t hd hi hf ht
    obtain ⟨f, rfl⟩ : ∃ q, f = q + 1 := ⟨f - 1, by omega⟩
    obtain ⟨g, q1, q2⟩ := ih f (i + 1) (upd t i (o i)) (by omega) (by omega) (by omega) (fun j hj => by
      by_cases c : j = i
      · rw [c]; exact us
      · rw [un c]; exact ht j (by omega))
    refine ⟨g, q1, ?_⟩
    refine (if_neg (snle (a := n) (b := i))).trans ((if_neg (snle (a := n) (b := i))).trans ?_)
    refine (bok (rd_ok (i := i))).trans ((bok (wr_ok (i := i))).trans ?_)
    rw [nI_1]; exact q2
theorem take3_ok {n : Nat} (hn : n ≤ 100) (t o : Nat → Int32) : ∃ g, (∀ j, j < n → g j = o j) ∧ f_X3_takeFrom n t n o = some g := take3 hn n 300 0 t (by omega) (by omega) (by omega) (fun j hj => absurd hj (by omega))
theorem take5 {o : Nat → Int32} : ∀ (d f i : Nat) (t : Nat → Int32), d = 16 - i → i ≤ 16 → d < f → (∀ j, j < i → t j = o j) → ∃ g, (∀ j, j < 16 → g j = o j) ∧ f_X5_takeFrom_2 o f (nI i) t = some g := by
  intro d
  induction d with
  | zero =>
    intro f i t hd hi hf ht
    obtain ⟨f, rfl⟩ : ∃ q, f = q + 1 := ⟨f - 1, by omega⟩
    have e : i = 16 := by omega
    subst e
    exact ⟨t, ht, if_pos (sle (a := 16) (b := 16))⟩
  | succ d ih =>
    intro f i t hd hi hf ht
    obtain ⟨f, rfl⟩ : ∃ q, f = q + 1 := ⟨f - 1, by omega⟩
    obtain ⟨g, q1, q2⟩ := ih f (i + 1) (upd t i (o i)) (by omega) (by omega) (by omega) (fun j hj => by
      by_cases c : j = i
      · rw [c]; exact us
      · rw [un c]; exact ht j (by omega))
    refine ⟨g, q1, ?_⟩
    refine (if_neg (snle (a := 16) (b := i))).trans ((if_neg (snle (a := 16) (b := i))).trans ?_)
    refine (bok (rd_ok (i := i))).trans ((bok (wr_ok (i := i))).trans ?_)
    rw [nI_1]; exact q2
theorem take5_ok (t o : Nat → Int32) : ∃ g, (∀ j, j < 16 → g j = o j) ∧ f_X5_takeFrom t o = some g := take5 16 300 0 t (by omega) (by omega) (by omega) (fun j hj => absurd hj (by omega))
theorem take4_ok (w ma ho ha hb hm : Nat → Int32) (lie ch he : Int32) (ow oma oho oha ohb ohm : Nat → Int32) (olie och ohe : Int32) : ∃ w' ma' ho' ha' hb' hm', (∀ j, j < 16 → w' j = ow j) ∧ (∀ j, j < 4 → ma' j = oma j) ∧ (∀ j, j < 6 → ho' j = oho j) ∧ (∀ j, j < 6 → ha' j = oha j) ∧ (∀ j, j < 6 → hb' j = ohb j) ∧ (∀ j, j < 6 → hm' j = ohm j) ∧ f_X4_takeFrom w ma ho ha hb hm lie ch he ow oma oho oha ohb ohm olie och ohe = some (w', ma', ho', ha', hb', hm', olie, och, ohe) := by
  obtain ⟨w', a1, a2⟩ := take5_ok w ow
  obtain ⟨ma', b1, b2⟩ := take3_ok (n := 4) (by omega) ma oma
  obtain ⟨ho', c1, c2⟩ := take3_ok (n := 6) (by omega) ho oho
  obtain ⟨ha', d1, d2⟩ := take3_ok (n := 6) (by omega) ha oha
  obtain ⟨hb', e1, e2⟩ := take3_ok (n := 6) (by omega) hb ohb
  obtain ⟨hm', f1, f2⟩ := take3_ok (n := 6) (by omega) hm ohm
  exact ⟨w', ma', ho', ha', hb', hm', a1, b1, c1, d1, e1, f1, (bok a2).trans ((bok b2).trans ((bok c2).trans ((bok d2).trans ((bok e2).trans ((bok f2).trans rfl)))))⟩
