/-! ===== the law, on plain cells: what stands between the two sides, kept by every call ===== -/
def Kp (h q : Nat) (x_keptReading : Int32) (m_isKept : Int32) (m_keptWill : Int32) (x_kept_worths : Nat → Int32) (x_kept_made : Nat → Int32) (x_kept_heardOf : Nat → Int32) (x_kept_heardThing : Nat → Int32) (x_kept_heardOther : Nat → Int32) (x_kept_heardMore : Nat → Int32) (x_kept_lie : Int32) (x_kept_changes : Int32) (x_kept_heard : Int32) (m_keptWorth : Nat → Int32) (m_keptThing : Nat → Int32) (m_keptChangesOf : Nat → Int32) (m_keptHeir : Nat → Int32) (m_keptOne : Nat → Int32) (m_keptTwo : Nat → Int32) (m_keptMore : Nat → Int32) (m_keptChanges : Int32) (m_keptHeard : Int32) : Prop := (x_keptReading = 0 ∧ m_isKept = 0) ∨ ∃ k, 1 ≤ k ∧ k ≤ q ∧ x_keptReading = nI k ∧ m_isKept = 1 ∧ m_keptWill = nI k ∧ (k = q → SD h x_kept_worths x_kept_made x_kept_heardOf x_kept_heardThing x_kept_heardOther x_kept_heardMore x_kept_lie x_kept_changes x_kept_heard m_keptWorth m_keptThing m_keptChangesOf m_keptHeir m_keptOne m_keptTwo m_keptMore m_keptChanges m_keptHeard)
def Rw (i : Nat) (x_page_codes : Nat → Int32) (x_page_letters : Int32) (x_estate_kinds : Nat → Int32) (x_estate_now_worths : Nat → Int32) (x_estate_now_made : Nat → Int32) (x_estate_now_heardOf : Nat → Int32) (x_estate_now_heardThing : Nat → Int32) (x_estate_now_heardOther : Nat → Int32) (x_estate_now_heardMore : Nat → Int32) (x_estate_now_lie : Int32) (x_estate_now_changes : Int32) (x_estate_now_heard : Int32) (x_estate_heirs : Int32) (x_kept_worths : Nat → Int32) (x_kept_made : Nat → Int32) (x_kept_heardOf : Nat → Int32) (x_kept_heardThing : Nat → Int32) (x_kept_heardOther : Nat → Int32) (x_kept_heardMore : Nat → Int32) (x_kept_lie : Int32) (x_kept_changes : Int32) (x_kept_heard : Int32) (x_readings : Int32) (x_keptReading : Int32) (m_wills : Int32) (m_heirs : Int32) (m_kindOf : Nat → Int32) (m_worthOf : Nat → Int32) (m_thingOf : Nat → Int32) (m_changesOf : Nat → Int32) (m_changes : Int32) (m_heard : Int32) (m_heardHeir : Nat → Int32) (m_heardOne : Nat → Int32) (m_heardTwo : Nat → Int32) (m_heardMore : Nat → Int32) (m_pageLength : Int32) (m_page : Nat → Int32) (m_isKept : Int32) (m_keptWill : Int32) (m_keptChanges : Int32) (m_keptHeard : Int32) (m_keptWorth : Nat → Int32) (m_keptThing : Nat → Int32) (m_keptChangesOf : Nat → Int32) (m_keptHeir : Nat → Int32) (m_keptOne : Nat → Int32) (m_keptTwo : Nat → Int32) (m_keptMore : Nat → Int32) : Prop := ∃ (n : Nat) (P : Nat → Nat) (h : Nat) (K : Nat → Nat) (q : Nat), n ≤ 25 ∧ x_page_letters = nI n ∧ m_pageLength = nI n ∧ okP n P x_page_codes ∧ okP n P m_page ∧ (h = 0 ∨ 2 ≤ h) ∧ h ≤ 4 ∧ x_estate_heirs = nI h ∧ m_heirs = nI h ∧ okK h K x_estate_kinds ∧ okK h K m_kindOf ∧ SD h x_estate_now_worths x_estate_now_made x_estate_now_heardOf x_estate_now_heardThing x_estate_now_heardOther x_estate_now_heardMore x_estate_now_lie x_estate_now_changes x_estate_now_heard m_worthOf m_thingOf m_changesOf m_heardHeir m_heardOne m_heardTwo m_heardMore m_changes m_heard ∧ q ≤ i ∧ x_readings = nI q ∧ m_wills = nI q ∧ (0 < h → 1 ≤ q) ∧ Kp h q x_keptReading m_isKept m_keptWill x_kept_worths x_kept_made x_kept_heardOf x_kept_heardThing x_kept_heardOther x_kept_heardMore x_kept_lie x_kept_changes x_kept_heard m_keptWorth m_keptThing m_keptChangesOf m_keptHeir m_keptOne m_keptTwo m_keptMore m_keptChanges m_keptHeard
theorem Kp_nx {h h2 q : Nat} {x_keptReading : Int32} {m_isKept : Int32} {m_keptWill : Int32} {x_kept_worths : Nat → Int32} {x_kept_made : Nat → Int32} {x_kept_heardOf : Nat → Int32} {x_kept_heardThing : Nat → Int32} {x_kept_heardOther : Nat → Int32} {x_kept_heardMore : Nat → Int32} {x_kept_lie : Int32} {x_kept_changes : Int32} {x_kept_heard : Int32} {m_keptWorth : Nat → Int32} {m_keptThing : Nat → Int32} {m_keptChangesOf : Nat → Int32} {m_keptHeir : Nat → Int32} {m_keptOne : Nat → Int32} {m_keptTwo : Nat → Int32} {m_keptMore : Nat → Int32} {m_keptChanges : Int32} {m_keptHeard : Int32} (k : Kp h q x_keptReading m_isKept m_keptWill x_kept_worths x_kept_made x_kept_heardOf x_kept_heardThing x_kept_heardOther x_kept_heardMore x_kept_lie x_kept_changes x_kept_heard m_keptWorth m_keptThing m_keptChangesOf m_keptHeir m_keptOne m_keptTwo m_keptMore m_keptChanges m_keptHeard) : Kp h2 (q + 1) x_keptReading m_isKept m_keptWill x_kept_worths x_kept_made x_kept_heardOf x_kept_heardThing x_kept_heardOther x_kept_heardMore x_kept_lie x_kept_changes x_kept_heard m_keptWorth m_keptThing m_keptChangesOf m_keptHeir m_keptOne m_keptTwo m_keptMore m_keptChanges m_keptHeard := by
  rcases k with c | ⟨k, k1, k2, k3, k4, k5, _⟩
  · exact Or.inl c
  · exact Or.inr ⟨k, k1, by omega, k3, k4, k5, fun e => absurd e (by omega)⟩
set_option maxHeartbeats 4000000 in
set_option maxRecDepth 100000 in
theorem law_run {xs : Nat → Int32} {L : Nat} (hL : L ≤ 320) : ∀ (d f i : Nat) (x3 : Int32) (x_page_codes : Nat → Int32) (x_page_letters : Int32) (x_estate_kinds : Nat → Int32) (x_estate_now_worths : Nat → Int32) (x_estate_now_made : Nat → Int32) (x_estate_now_heardOf : Nat → Int32) (x_estate_now_heardThing : Nat → Int32) (x_estate_now_heardOther : Nat → Int32) (x_estate_now_heardMore : Nat → Int32) (x_estate_now_lie : Int32) (x_estate_now_changes : Int32) (x_estate_now_heard : Int32) (x_estate_heirs : Int32) (x_found_lies : Nat → Int32) (x_found_steps : Nat → Int32) (x_found_reached : Int32) (x_found_number : Int32) (x_found_greatest : Int32) (x_found_least : Int32) (x_found_fewest : Int32) (x_kept_worths : Nat → Int32) (x_kept_made : Nat → Int32) (x_kept_heardOf : Nat → Int32) (x_kept_heardThing : Nat → Int32) (x_kept_heardOther : Nat → Int32) (x_kept_heardMore : Nat → Int32) (x_kept_lie : Int32) (x_kept_changes : Int32) (x_kept_heard : Int32) (x_readings : Int32) (x_keptReading : Int32) (m_wills : Int32) (m_heirs : Int32) (m_kindOf : Nat → Int32) (m_worthOf : Nat → Int32) (m_thingOf : Nat → Int32) (m_changesOf : Nat → Int32) (m_changes : Int32) (m_heard : Int32) (m_heardHeir : Nat → Int32) (m_heardOne : Nat → Int32) (m_heardTwo : Nat → Int32) (m_heardMore : Nat → Int32) (m_pageLength : Int32) (m_page : Nat → Int32) (m_says : Nat → Int32) (m_dealt : Nat → Int32) (m_farOf : Nat → Int32) (m_endMany : Int32) (m_endMost : Int32) (m_endLeast : Int32) (m_endFew : Int32) (m_seedNow : Int64) (m_saved : Nat → Int32) (m_isKept : Int32) (m_keptWill : Int32) (m_keptChanges : Int32) (m_keptHeard : Int32) (m_keptWorth : Nat → Int32) (m_keptThing : Nat → Int32) (m_keptChangesOf : Nat → Int32) (m_keptHeir : Nat → Int32) (m_keptOne : Nat → Int32) (m_keptTwo : Nat → Int32) (m_keptMore : Nat → Int32) (m_h : Int64), d = 65 - i → i ≤ 65 → d < f → x3 = nI (5 * i) → Rw i x_page_codes x_page_letters x_estate_kinds x_estate_now_worths x_estate_now_made x_estate_now_heardOf x_estate_now_heardThing x_estate_now_heardOther x_estate_now_heardMore x_estate_now_lie x_estate_now_changes x_estate_now_heard x_estate_heirs x_kept_worths x_kept_made x_kept_heardOf x_kept_heardThing x_kept_heardOther x_kept_heardMore x_kept_lie x_kept_changes x_kept_heard x_readings x_keptReading m_wills m_heirs m_kindOf m_worthOf m_thingOf m_changesOf m_changes m_heard m_heardHeir m_heardOne m_heardTwo m_heardMore m_pageLength m_page m_isKept m_keptWill m_keptChanges m_keptHeard m_keptWorth m_keptThing m_keptChangesOf m_keptHeir m_keptOne m_keptTwo m_keptMore → f_L_law_18 xs L f x3 x_page_codes x_page_letters x_estate_kinds x_estate_now_worths x_estate_now_made x_estate_now_heardOf x_estate_now_heardThing x_estate_now_heardOther x_estate_now_heardMore x_estate_now_lie x_estate_now_changes x_estate_now_heard x_estate_heirs x_found_lies x_found_steps x_found_reached x_found_number x_found_greatest x_found_least x_found_fewest x_kept_worths x_kept_made x_kept_heardOf x_kept_heardThing x_kept_heardOther x_kept_heardMore x_kept_lie x_kept_changes x_kept_heard x_readings x_keptReading m_wills m_heirs m_kindOf m_worthOf m_thingOf m_changesOf m_changes m_heard m_heardHeir m_heardOne m_heardTwo m_heardMore m_pageLength m_page m_says m_dealt m_farOf m_endMany m_endMost m_endLeast m_endFew m_seedNow m_saved m_isKept m_keptWill m_keptChanges m_keptHeard m_keptWorth m_keptThing m_keptChangesOf m_keptHeir m_keptOne m_keptTwo m_keptMore m_h = some 1 := by
  have hsub : (nI L - 5).toInt = (L : Int) - 5 := pk_sub_toInt (b := 5) (by omega) (by omega)
  have hend : ∀ i, i ≤ 65 → L < 5 + 5 * i → (Int32.ofNat L - 5) < nI (5 * i) := fun i hi h => by
    apply Int32.lt_iff_toInt_lt.mpr
    rw [show Int32.ofNat L = nI L from rfl, hsub, nI_toInt (by omega)]
    omega
  have hgo : ∀ i, i ≤ 65 → ¬ L < 5 + 5 * i → ¬ (Int32.ofNat L - 5) < nI (5 * i) := fun i hi h q => by
    have q := Int32.lt_iff_toInt_lt.mp q
    rw [show Int32.ofNat L = nI L from rfl, hsub, nI_toInt (by omega)] at q
    omega
  intro d
  induction d with
  | zero =>
    intro f i x3 x_page_codes x_page_letters x_estate_kinds x_estate_now_worths x_estate_now_made x_estate_now_heardOf x_estate_now_heardThing x_estate_now_heardOther x_estate_now_heardMore x_estate_now_lie x_estate_now_changes x_estate_now_heard x_estate_heirs x_found_lies x_found_steps x_found_reached x_found_number x_found_greatest x_found_least x_found_fewest x_kept_worths x_kept_made x_kept_heardOf x_kept_heardThing x_kept_heardOther x_kept_heardMore x_kept_lie x_kept_changes x_kept_heard x_readings x_keptReading m_wills m_heirs m_kindOf m_worthOf m_thingOf m_changesOf m_changes m_heard m_heardHeir m_heardOne m_heardTwo m_heardMore m_pageLength m_page m_says m_dealt m_farOf m_endMany m_endMost m_endLeast m_endFew m_seedNow m_saved m_isKept m_keptWill m_keptChanges m_keptHeard m_keptWorth m_keptThing m_keptChangesOf m_keptHeir m_keptOne m_keptTwo m_keptMore m_h hd hi hf hx3 hR
    obtain ⟨f, rfl⟩ : ∃ q, f = q + 1 := ⟨f - 1, by omega⟩
    subst hx3
    exact if_pos (hend i hi (by omega))
  | succ d ih =>
    intro f i x3 x_page_codes x_page_letters x_estate_kinds x_estate_now_worths x_estate_now_made x_estate_now_heardOf x_estate_now_heardThing x_estate_now_heardOther x_estate_now_heardMore x_estate_now_lie x_estate_now_changes x_estate_now_heard x_estate_heirs x_found_lies x_found_steps x_found_reached x_found_number x_found_greatest x_found_least x_found_fewest x_kept_worths x_kept_made x_kept_heardOf x_kept_heardThing x_kept_heardOther x_kept_heardMore x_kept_lie x_kept_changes x_kept_heard x_readings x_keptReading m_wills m_heirs m_kindOf m_worthOf m_thingOf m_changesOf m_changes m_heard m_heardHeir m_heardOne m_heardTwo m_heardMore m_pageLength m_page m_says m_dealt m_farOf m_endMany m_endMost m_endLeast m_endFew m_seedNow m_saved m_isKept m_keptWill m_keptChanges m_keptHeard m_keptWorth m_keptThing m_keptChangesOf m_keptHeir m_keptOne m_keptTwo m_keptMore m_h hd hi hf hx3 hR
    obtain ⟨f, rfl⟩ : ∃ q, f = q + 1 := ⟨f - 1, by omega⟩
    subst hx3
    by_cases hlt : L < 5 + 5 * i
    · exact if_pos (hend i hi hlt)
    have e5 : nI (5 * i) + 5 = nI (5 * (i + 1)) := nI_add (5 * i) 5
    have go : ∀ {x_page_codes : Nat → Int32} {x_page_letters : Int32} {x_estate_kinds : Nat → Int32} {x_estate_now_worths : Nat → Int32} {x_estate_now_made : Nat → Int32} {x_estate_now_heardOf : Nat → Int32} {x_estate_now_heardThing : Nat → Int32} {x_estate_now_heardOther : Nat → Int32} {x_estate_now_heardMore : Nat → Int32} {x_estate_now_lie : Int32} {x_estate_now_changes : Int32} {x_estate_now_heard : Int32} {x_estate_heirs : Int32} {x_found_lies : Nat → Int32} {x_found_steps : Nat → Int32} {x_found_reached : Int32} {x_found_number : Int32} {x_found_greatest : Int32} {x_found_least : Int32} {x_found_fewest : Int32} {x_kept_worths : Nat → Int32} {x_kept_made : Nat → Int32} {x_kept_heardOf : Nat → Int32} {x_kept_heardThing : Nat → Int32} {x_kept_heardOther : Nat → Int32} {x_kept_heardMore : Nat → Int32} {x_kept_lie : Int32} {x_kept_changes : Int32} {x_kept_heard : Int32} {x_readings : Int32} {x_keptReading : Int32} {m_wills : Int32} {m_heirs : Int32} {m_kindOf : Nat → Int32} {m_worthOf : Nat → Int32} {m_thingOf : Nat → Int32} {m_changesOf : Nat → Int32} {m_changes : Int32} {m_heard : Int32} {m_heardHeir : Nat → Int32} {m_heardOne : Nat → Int32} {m_heardTwo : Nat → Int32} {m_heardMore : Nat → Int32} {m_pageLength : Int32} {m_page : Nat → Int32} {m_says : Nat → Int32} {m_dealt : Nat → Int32} {m_farOf : Nat → Int32} {m_endMany : Int32} {m_endMost : Int32} {m_endLeast : Int32} {m_endFew : Int32} {m_seedNow : Int64} {m_saved : Nat → Int32} {m_isKept : Int32} {m_keptWill : Int32} {m_keptChanges : Int32} {m_keptHeard : Int32} {m_keptWorth : Nat → Int32} {m_keptThing : Nat → Int32} {m_keptChangesOf : Nat → Int32} {m_keptHeir : Nat → Int32} {m_keptOne : Nat → Int32} {m_keptTwo : Nat → Int32} {m_keptMore : Nat → Int32} {m_h : Int64}, Rw (i + 1) x_page_codes x_page_letters x_estate_kinds x_estate_now_worths x_estate_now_made x_estate_now_heardOf x_estate_now_heardThing x_estate_now_heardOther x_estate_now_heardMore x_estate_now_lie x_estate_now_changes x_estate_now_heard x_estate_heirs x_kept_worths x_kept_made x_kept_heardOf x_kept_heardThing x_kept_heardOther x_kept_heardMore x_kept_lie x_kept_changes x_kept_heard x_readings x_keptReading m_wills m_heirs m_kindOf m_worthOf m_thingOf m_changesOf m_changes m_heard m_heardHeir m_heardOne m_heardTwo m_heardMore m_pageLength m_page m_isKept m_keptWill m_keptChanges m_keptHeard m_keptWorth m_keptThing m_keptChangesOf m_keptHeir m_keptOne m_keptTwo m_keptMore → f_L_law_18 xs L f (nI (5 * i) + 5) x_page_codes x_page_letters x_estate_kinds x_estate_now_worths x_estate_now_made x_estate_now_heardOf x_estate_now_heardThing x_estate_now_heardOther x_estate_now_heardMore x_estate_now_lie x_estate_now_changes x_estate_now_heard x_estate_heirs x_found_lies x_found_steps x_found_reached x_found_number x_found_greatest x_found_least x_found_fewest x_kept_worths x_kept_made x_kept_heardOf x_kept_heardThing x_kept_heardOther x_kept_heardMore x_kept_lie x_kept_changes x_kept_heard x_readings x_keptReading m_wills m_heirs m_kindOf m_worthOf m_thingOf m_changesOf m_changes m_heard m_heardHeir m_heardOne m_heardTwo m_heardMore m_pageLength m_page m_says m_dealt m_farOf m_endMany m_endMost m_endLeast m_endFew m_seedNow m_saved m_isKept m_keptWill m_keptChanges m_keptHeard m_keptWorth m_keptThing m_keptChangesOf m_keptHeir m_keptOne m_keptTwo m_keptMore m_h = some 1 := fun {x_page_codes} {x_page_letters} {x_estate_kinds} {x_estate_now_worths} {x_estate_now_made} {x_estate_now_heardOf} {x_estate_now_heardThing} {x_estate_now_heardOther} {x_estate_now_heardMore} {x_estate_now_lie} {x_estate_now_changes} {x_estate_now_heard} {x_estate_heirs} {x_found_lies} {x_found_steps} {x_found_reached} {x_found_number} {x_found_greatest} {x_found_least} {x_found_fewest} {x_kept_worths} {x_kept_made} {x_kept_heardOf} {x_kept_heardThing} {x_kept_heardOther} {x_kept_heardMore} {x_kept_lie} {x_kept_changes} {x_kept_heard} {x_readings} {x_keptReading} {m_wills} {m_heirs} {m_kindOf} {m_worthOf} {m_thingOf} {m_changesOf} {m_changes} {m_heard} {m_heardHeir} {m_heardOne} {m_heardTwo} {m_heardMore} {m_pageLength} {m_page} {m_says} {m_dealt} {m_farOf} {m_endMany} {m_endMost} {m_endLeast} {m_endFew} {m_seedNow} {m_saved} {m_isKept} {m_keptWill} {m_keptChanges} {m_keptHeard} {m_keptWorth} {m_keptThing} {m_keptChangesOf} {m_keptHeir} {m_keptOne} {m_keptTwo} {m_keptMore} {m_h} hR => ih f (i + 1) _ _ _ _ _ _ _ _ _ _ _ _ _ _ _ _ _ _ _ _ _ _ _ _ _ _ _ _ _ _ _ _ _ _ _ _ _ _ _ _ _ _ _ _ _ _ _ _ _ _ _ _ _ _ _ _ _ _ _ _ _ _ _ _ _ _ _ (by omega) (by omega) (by omega) e5 hR
    have r0 : rd xs L (nI (5 * i)) = some (xs (5 * i)) := rd_ok
    have r1 : rd xs L (nI (5 * i) + 1) = some (xs (5 * i + 1)) := by rw [nI_1]; exact rd_ok
    have r2 : rd xs L (nI (5 * i) + 2) = some (xs (5 * i + 2)) := by rw [show nI (5 * i) + 2 = nI (5 * i + 2) from nI_add (5 * i) 2]; exact rd_ok
    have r3 : rd xs L (nI (5 * i) + 3) = some (xs (5 * i + 3)) := by rw [show nI (5 * i) + 3 = nI (5 * i + 3) from nI_add (5 * i) 3]; exact rd_ok
    have r4 : rd xs L (nI (5 * i) + 4) = some (xs (5 * i + 4)) := by rw [show nI (5 * i) + 4 = nI (5 * i + 4) from nI_add (5 * i) 4]; exact rd_ok
    obtain ⟨n, P, h, K, q, a1, a2, a3, a4, a5, a6, a7, a8, a9, b1, b2, b3, b4, b5, b6, b7, b8⟩ := hR
    have sd := b3
    obtain ⟨W, x, hn, o, a, b, m, s1, s2, s3, s4, s5, s6, s7, s8, s9, s10, s11, s12⟩ := b3
    subst a2 a3 a8 a9 b5 b6 s4 s7 s9 s10
    refine (if_neg (hgo i hi hlt)).trans ?_
    refine (bok r0).trans ?_
    generalize xs (5 * i) &&& 31 = v
    by_cases c0x : v = 0
    · refine (if_pos c0x).trans ?_
      obtain ⟨r, n2, P2, g, g2, c1, c2, c3, c4, c5⟩ := letter_eq a1 a4 a5 (xs (5 * i + 1))
      exact (bok r1).trans ((bok c4).trans ((bok r1).trans ((bok c5).trans ((if_pos rfl).trans (go ⟨n2, P2, h, K, q, c1, rfl, rfl, c2, c3, a6, a7, rfl, rfl, b1, b2, sd, by omega, rfl, rfl, b7, b8⟩)))))
    refine (if_neg c0x).trans ?_
    by_cases c1x : v = 1
    · refine (if_pos c1x).trans ?_
      exact (bok (rfl : f_X6_blank (nI n) = some (nI n, 0))).trans ((bok (rfl : f_X7_blank (nI n) = some (nI n, 0))).trans ((if_pos rfl).trans (go ⟨0, P, h, K, q, by omega, rfl, rfl, fun j hj => absurd hj (by omega), fun j hj => absurd hj (by omega), a6, a7, rfl, rfl, b1, b2, sd, by omega, rfl, rfl, b7, b8⟩)))
    refine (if_neg c1x).trans ?_
    by_cases c2x : v = 2
    · refine (if_pos c2x).trans ?_
      obtain ⟨r, c1, c2, c3, c4⟩ := fault_eq a1 a4 a5
      exact (bok ((bok c3).trans rfl : f_X6_fault x_page_codes (nI n) = some (nI r))).trans ((bok ((bok c4).trans rfl : f_X7_fault (nI n) m_page = some (nI r))).trans ((if_pos rfl).trans (go ⟨n, P, h, K, q, a1, rfl, rfl, a4, a5, a6, a7, rfl, rfl, b1, b2, sd, by omega, rfl, rfl, b7, b8⟩)))
    refine (if_neg c2x).trans ?_
    by_cases c3x : v = 3
    · refine (if_pos c3x).trans ?_
      rcases will_eq (K := K) (kinds := x_estate_kinds) (made := x_estate_now_made) (mk := m_kindOf) (mt := m_thingOf) (mc := m_changesOf) (ms := m_says) (md := m_dealt) a1 a4 a5 s1 s2 (nI x) x_estate_now_changes (nI hn) (nI h) (nI q) x_estate_now_changes (nI hn) (nI h) (nI q) with ⟨c1, c2⟩ | ⟨h2, K2, W2, y, k2, w2, m2, mk2, mw2, mt2, mc2, ms2, md2, d1, d2, d3, d4, d5, d6, d7, d8, d9, d10, c1, c2⟩
      · exact (bok c1).trans ((bok c2).trans ((if_pos rfl).trans (go ⟨n, P, h, K, q, a1, rfl, rfl, a4, a5, a6, a7, rfl, rfl, b1, b2, sd, by omega, rfl, rfl, b7, b8⟩)))
      · exact (bok c1).trans ((bok c2).trans ((if_pos rfl).trans (go ⟨0, P, h2, K2, (q + 1), by omega, rfl, rfl, fun j hj => absurd hj (by omega), fun j hj => absurd hj (by omega), Or.inr d1, d2, rfl, rfl, d3, d5, ⟨W2, y, 0, o, a, b, m, d4, d6, d7, rfl, d8, fun j hj => (d9 j hj).trans (d10 j hj).symm, rfl, by omega, rfl, rfl, fun j hj => absurd hj (by omega), fun j hj => absurd hj (by omega)⟩, by omega, nI_1 q, nI_1 q, fun _ => by omega, Kp_nx b8⟩)))
    refine (if_neg c3x).trans ?_
    by_cases c4x : v = 4
    · refine (if_pos c4x).trans ?_
      obtain ⟨r, g, c1, c2⟩ := about_eq (says := m_says) b1 s1 b2 s2 a7 s3 s5 s6 (xs (5 * i + 1)) (xs (5 * i + 2))
      exact (bok r1).trans ((bok r2).trans ((bok c1).trans ((bok r1).trans ((bok r2).trans ((bok c2).trans ((if_pos rfl).trans (go ⟨n, P, h, K, q, a1, rfl, rfl, a4, a5, a6, a7, rfl, rfl, b1, b2, sd, by omega, rfl, rfl, b7, b8⟩)))))))
    refine (if_neg c4x).trans ?_
    by_cases c5x : v = 5
    · refine (if_pos c5x).trans ?_
      obtain ⟨r, c1, c2⟩ := as_eq b1 b2 a7 (xs (5 * i + 1)) (xs (5 * i + 2))
      exact (bok r1).trans ((bok r2).trans ((bok c1).trans ((bok r1).trans ((bok r2).trans ((bok c2).trans ((if_pos rfl).trans (go ⟨n, P, h, K, q, a1, rfl, rfl, a4, a5, a6, a7, rfl, rfl, b1, b2, sd, by omega, rfl, rfl, b7, b8⟩)))))))
    refine (if_neg c5x).trans ?_
    by_cases c6x : v = 6
    · refine (if_pos c6x).trans ?_
      obtain ⟨r, c1, c2⟩ := has_eq a7 s3 s5 (xs (5 * i + 1))
      exact (bok r1).trans ((bok c1).trans ((bok r1).trans ((bok c2).trans ((if_pos rfl).trans (go ⟨n, P, h, K, q, a1, rfl, rfl, a4, a5, a6, a7, rfl, rfl, b1, b2, sd, by omega, rfl, rfl, b7, b8⟩)))))
    refine (if_neg c6x).trans ?_
    by_cases c7x : v = 7
    · refine (if_pos c7x).trans ?_
      obtain ⟨r, W2, g, g2, c1, c2, c3, c4⟩ := worth_eq s1 s2 a7 (xs (5 * i + 1)) (xs (5 * i + 2)) (xs (5 * i + 3))
      exact (bok r1).trans ((bok r2).trans ((bok r3).trans ((bok c3).trans ((bok r1).trans ((bok r2).trans ((bok r3).trans ((bok c4).trans ((if_pos rfl).trans (go ⟨n, P, h, K, q, a1, rfl, rfl, a4, a5, a6, a7, rfl, rfl, b1, b2, ⟨W2, x, hn, o, a, b, m, c1, c2, s3, rfl, s5, s6, rfl, s8, rfl, rfl, s11, s12⟩, by omega, rfl, rfl, b7, b8⟩)))))))))
    refine (if_neg c7x).trans ?_
    by_cases c8x : v = 8
    · refine (if_pos c8x).trans ?_
      obtain ⟨r, y, g, s, e, c1, c2, c3, c4⟩ := cdeal_eq (says := m_says) (dealt := m_dealt) b1 s1 b2 s2 a7 s3 s5
      exact (bok c3).trans ((bok c4).trans ((if_pos rfl).trans (go ⟨n, P, h, K, q, a1, rfl, rfl, a4, a5, a6, a7, rfl, rfl, b1, b2, ⟨W, y, hn, o, a, b, m, s1, s2, c1, rfl, c2, s6, rfl, s8, rfl, rfl, s11, s12⟩, by omega, rfl, rfl, b7, b8⟩)))
    refine (if_neg c8x).trans ?_
    by_cases c9x : v = 9
    · refine (if_pos c9x).trans ?_
      obtain ⟨r, g, c1, c2⟩ := may_eq (says := m_says) b1 s1 b2 s2 a7 s3 s5 (xs (5 * i + 1)) (xs (5 * i + 2))
      exact (bok r1).trans ((bok r2).trans ((bok c1).trans ((bok r1).trans ((bok r2).trans ((bok c2).trans ((if_pos rfl).trans (go ⟨n, P, h, K, q, a1, rfl, rfl, a4, a5, a6, a7, rfl, rfl, b1, b2, sd, by omega, rfl, rfl, b7, b8⟩)))))))
    refine (if_neg c9x).trans ?_
    by_cases c10x : v = 10
    · refine (if_pos c10x).trans ?_
      obtain ⟨r, y, ch2, g, t, c, s, c1, c2, c3, c4, c5⟩ := change_eq (says := m_says) b1 s1 b2 s2 a7 s3 s5 s6 x_estate_now_changes (xs (5 * i + 1)) (xs (5 * i + 2))
      exact (bok r1).trans ((bok r2).trans ((bok c4).trans ((bok r1).trans ((bok r2).trans ((bok c5).trans ((if_pos rfl).trans (go ⟨n, P, h, K, q, a1, rfl, rfl, a4, a5, a6, a7, rfl, rfl, b1, b2, ⟨W, y, hn, o, a, b, m, s1, s2, c1, rfl, c2, c3, rfl, s8, rfl, rfl, s11, s12⟩, by omega, rfl, rfl, b7, b8⟩)))))))
    refine (if_neg c10x).trans ?_
    by_cases c11x : v = 11
    · refine (if_pos c11x).trans ?_
      obtain ⟨r, l2, t2, y2, f2, m2, n2, g2, w2, e2, n3, g3, w3, e3, c1, c2⟩ := cends_eq (says := m_says) (far := m_farOf) (lies := x_found_lies) (steps := x_found_steps) b1 s1 b2 s2 a7 s3 s5 x_found_reached x_found_number x_found_greatest x_found_least x_found_fewest m_endMany m_endMost m_endLeast m_endFew (xs (5 * i + 1))
      exact (bok r1).trans ((bok c1).trans ((bok r1).trans ((bok c2).trans ((if_pos rfl).trans (go ⟨n, P, h, K, q, a1, rfl, rfl, a4, a5, a6, a7, rfl, rfl, b1, b2, sd, by omega, rfl, rfl, b7, b8⟩)))))
    refine (if_neg c11x).trans ?_
    by_cases c12x : v = 12
    · refine (if_pos c12x).trans ?_
      obtain ⟨r, g, g2, s, e, c1, c2, c3, c4⟩ := cserved_eq (says := m_says) (dealt := m_dealt) b1 s1 b2 s2 a7 (xs (5 * i + 1)) (xs (5 * i + 2))
      exact (bok r1).trans ((bok r2).trans ((bok c3).trans ((bok r1).trans ((bok r2).trans ((bok c4).trans ((if_pos rfl).trans (go ⟨n, P, h, K, q, a1, rfl, rfl, a4, a5, a6, a7, rfl, rfl, c1, c2, sd, by omega, rfl, rfl, b7, b8⟩)))))))
    refine (if_neg c12x).trans ?_
    by_cases c13x : v = 13
    · refine (if_pos c13x).trans ?_
      obtain ⟨r, c1, c2⟩ := cworst_eq s1 s2 a6 a7 (xs (5 * i + 1))
      exact (bok r1).trans ((bok c1).trans ((bok r1).trans ((bok c2).trans ((if_pos rfl).trans (go ⟨n, P, h, K, q, a1, rfl, rfl, a4, a5, a6, a7, rfl, rfl, b1, b2, sd, by omega, rfl, rfl, b7, b8⟩)))))
    refine (if_neg c13x).trans ?_
    by_cases c14x : v = 14
    · refine (if_pos c14x).trans ?_
      refine (bok r1).trans ((bok r2).trans ((bok r3).trans ((bok r4).trans ?_)))
      by_cases z4 : xs (5 * i + 4) = 0
      · obtain ⟨r, hn2, o2, a2, b2x, m2, p1, p2, p3, p4, p5, p6, p7, p8, e1, e2, e3, c1, c2⟩ := hear_eq a7 s8 s11 s12 (xs (5 * i + 1)) (xs (5 * i + 2)) (xs (5 * i + 3)) 0
        refine (if_pos z4).trans ?_
        refine (bok c1).trans ((bok r1).trans ((bok r2).trans ((bok r3).trans ((bok r4).trans ((if_pos z4).trans ?_)))))
        exact (bok c2).trans ((if_pos rfl).trans (go ⟨n, P, h, K, q, a1, rfl, rfl, a4, a5, a6, a7, rfl, rfl, b1, b2, ⟨W, x, hn2, o2, a2, b2x, m2, s1, s2, s3, rfl, s5, s6, rfl, e1, rfl, rfl, e2, e3⟩, by omega, rfl, rfl, b7, b8⟩))
      · obtain ⟨r, hn2, o2, a2, b2x, m2, p1, p2, p3, p4, p5, p6, p7, p8, e1, e2, e3, c1, c2⟩ := hear_eq a7 s8 s11 s12 (xs (5 * i + 1)) (xs (5 * i + 2)) (xs (5 * i + 3)) 1
        refine (if_neg z4).trans ?_
        refine (bok c1).trans ((bok r1).trans ((bok r2).trans ((bok r3).trans ((bok r4).trans ((if_neg z4).trans ?_)))))
        exact (bok c2).trans ((if_pos rfl).trans (go ⟨n, P, h, K, q, a1, rfl, rfl, a4, a5, a6, a7, rfl, rfl, b1, b2, ⟨W, x, hn2, o2, a2, b2x, m2, s1, s2, s3, rfl, s5, s6, rfl, e1, rfl, rfl, e2, e3⟩, by omega, rfl, rfl, b7, b8⟩))
    refine (if_neg c14x).trans ?_
    by_cases c15x : v = 15
    · refine (if_pos c15x).trans ?_
      exact (bok (rfl : f_X6_forget (nI hn) = some (nI hn, 0))).trans ((bok (rfl : f_X7_forget (nI hn) = some (nI hn, 0))).trans ((if_pos rfl).trans (go ⟨n, P, h, K, q, a1, rfl, rfl, a4, a5, a6, a7, rfl, rfl, b1, b2, ⟨W, x, 0, o, a, b, m, s1, s2, s3, rfl, s5, s6, rfl, by omega, rfl, rfl, fun j hj => absurd hj (by omega), fun j hj => absurd hj (by omega)⟩, by omega, rfl, rfl, b7, b8⟩)))
    refine (if_neg c15x).trans ?_
    by_cases c16x : v = 16
    · refine (if_pos c16x).trans ?_
      obtain ⟨r, c1, c2⟩ := ctruths_eq s1 s11 s2 s12 a7 s8 (xs (5 * i + 1)) (xs (5 * i + 2))
      exact (bok r1).trans ((bok r2).trans ((bok c1).trans ((bok r1).trans ((bok r2).trans ((bok c2).trans ((if_pos rfl).trans (go ⟨n, P, h, K, q, a1, rfl, rfl, a4, a5, a6, a7, rfl, rfl, b1, b2, sd, by omega, rfl, rfl, b7, b8⟩)))))))
    refine (if_neg c16x).trans ?_
    by_cases c17x : v = 17
    · refine (if_pos c17x).trans ?_
      obtain ⟨r, c1, c2⟩ := cask_eq s1 s11 s2 s12 a7 s8 (xs (5 * i + 1)) (xs (5 * i + 2))
      exact (bok r1).trans ((bok r2).trans ((bok c1).trans ((bok r1).trans ((bok r2).trans ((bok c2).trans ((if_pos rfl).trans (go ⟨n, P, h, K, q, a1, rfl, rfl, a4, a5, a6, a7, rfl, rfl, b1, b2, sd, by omega, rfl, rfl, b7, b8⟩)))))))
    refine (if_neg c17x).trans ?_
    by_cases c18x : v = 18
    · refine (if_pos c18x).trans ?_
      obtain ⟨r, g, s, z, v2, c1, c2, c3⟩ := years_eq (says := m_says) (sv := m_saved) (seedN := m_seedNow) b1 s1 b2 s2 a7 (fun _ => ⟨s3, rfl, s5⟩) (xs (5 * i + 1)) (xs (5 * i + 2)) (xs (5 * i + 3))
      exact (bok r1).trans ((bok r2).trans ((bok r3).trans ((bok c2).trans ((bok r1).trans ((bok r2).trans ((bok r3).trans ((bok c3).trans ((if_pos rfl).trans (go ⟨n, P, h, K, q, a1, rfl, rfl, a4, a5, a6, a7, rfl, rfl, b1, b2, ⟨W, x, hn, o, a, b, m, s1, s2, s3, rfl, okT_cg s5 c1, s6, rfl, s8, rfl, rfl, s11, s12⟩, by omega, rfl, rfl, b7, b8⟩)))))))))
    refine (if_neg c18x).trans ?_
    by_cases c19x : v = 19
    · refine (if_pos c19x).trans ?_
      by_cases h0 : 0 < h
      · obtain ⟨w2, ma2, p1, p2, p3, p4, mw2, mt2, mc2, p5, p6, p7, p8, d1, c1, c2⟩ := image_eq (kw := x_kept_worths) (kma := x_kept_made) (kho := x_kept_heardOf) (kha := x_kept_heardThing) (khb := x_kept_heardOther) (khm := x_kept_heardMore) (klie := x_kept_lie) (kch := x_kept_changes) (khe := x_kept_heard) (ik := m_isKept) (kwl := m_keptWill) (kc := m_keptChanges) (khd := m_keptHeard) (nw := m_keptWorth) (nt := m_keptThing) (nc := m_keptChangesOf) (no := m_keptHeir) (na := m_keptOne) (nb := m_keptTwo) (nm := m_keptMore) a7 h0 sd (nI q) x_keptReading (nI q)
        exact (bok c1).trans ((bok c2).trans ((if_pos rfl).trans (go ⟨n, P, h, K, q, a1, rfl, rfl, a4, a5, a6, a7, rfl, rfl, b1, b2, sd, by omega, rfl, rfl, b7, Or.inr ⟨q, b7 h0, Nat.le_refl q, rfl, rfl, rfl, fun _ => d1⟩⟩)))
      · have hz : h = 0 := by omega
        refine (bok (if_pos (by rw [hz]; rfl))).trans ((bok (if_pos (by rw [hz]; rfl))).trans ((if_pos rfl).trans ?_))
        exact go ⟨n, P, h, K, q, a1, rfl, rfl, a4, a5, a6, a7, rfl, rfl, b1, b2, sd, by omega, rfl, rfl, b7, b8⟩
    refine (if_neg c19x).trans ?_
    by_cases c20x : v = 20
    · refine (if_pos c20x).trans ?_
      rcases b8 with ⟨k3, k4⟩ | ⟨k, k1, k2, k3, k4, k5, k6⟩
      · subst k3 k4
        refine (bok (if_pos rfl)).trans ((bok (if_pos rfl)).trans ((if_pos rfl).trans ?_))
        exact go ⟨n, P, h, K, q, a1, rfl, rfl, a4, a5, a6, a7, rfl, rfl, b1, b2, sd, by omega, rfl, rfl, b7, Or.inl ⟨rfl, rfl⟩⟩
      · subst k3 k4 k5
        by_cases kq : k = q
        · have sk := k6 kq
          have hch : x_kept_changes = m_keptChanges := by
            obtain ⟨_, _, _, _, _, _, _, _, _, _, _, _, _, t7, _⟩ := sk
            exact t7
          obtain ⟨w2, ma2, p1, p2, p3, p4, mw2, mt2, mc2, p5, p6, p7, p8, d1, c1, c2⟩ := restore_eq (w := x_estate_now_worths) (ma := x_estate_now_made) (ho := x_estate_now_heardOf) (ha := x_estate_now_heardThing) (hb := x_estate_now_heardOther) (hm := x_estate_now_heardMore) (mw := m_worthOf) (mt := m_thingOf) (mc := m_changesOf) (go := m_heardHeir) (ga := m_heardOne) (gb := m_heardTwo) (gm := m_heardMore) (lie := nI x) (ch := x_estate_now_changes) (he := nI hn) (mch := x_estate_now_changes) (mhe := nI hn) (rr := nI q) (ww := nI q) (kr := nI k) (kwl := nI k) a7 sk (nI_ne0 k1 (by omega)) (by rw [kq]) (by rw [kq])
          exact (bok c1).trans ((bok c2).trans ((if_pos hch).trans (go ⟨n, P, h, K, q, a1, rfl, rfl, a4, a5, a6, a7, rfl, rfl, b1, b2, d1, by omega, rfl, rfl, b7, Or.inr ⟨k, k1, k2, rfl, rfl, rfl, k6⟩⟩)))
        · have e1 : ¬ nI k = nI q := sne kq
          refine (bok ((if_neg (nI_ne0 k1 (by omega))).trans (if_neg e1))).trans ((bok ((if_neg (by decide)).trans (if_neg e1))).trans ((if_pos rfl).trans ?_))
          exact go ⟨n, P, h, K, q, a1, rfl, rfl, a4, a5, a6, a7, rfl, rfl, b1, b2, sd, by omega, rfl, rfl, b7, Or.inr ⟨k, k1, k2, rfl, rfl, rfl, k6⟩⟩
    refine (if_neg c20x).trans ?_
    by_cases c21x : v = 21
    · refine (if_pos c21x).trans ?_
      obtain ⟨r, c1, c2⟩ := howMany_eq s1 s2 a7 s3 s5 (nI n) x_estate_now_changes (nI hn) (nI q) (xs (5 * i + 1))
      exact (bok r1).trans ((bok c1).trans ((bok r1).trans ((bok ((bok c2).trans rfl : f_X7_count (nI q) (nI h) m_worthOf m_thingOf x_estate_now_changes (nI hn) (nI n) (xs (5 * i + 1)) = some r)).trans ((if_pos rfl).trans (go ⟨n, P, h, K, q, a1, rfl, rfl, a4, a5, a6, a7, rfl, rfl, b1, b2, sd, by omega, rfl, rfl, b7, b8⟩)))))
    refine (if_neg c21x).trans ?_
    by_cases c22x : v = 22
    · refine (if_pos c22x).trans ?_
      obtain ⟨z, k2, mk2, y2, d2, l2, t2, f2, r5, n5, g5, l5, w5, am2, om2, ol2, oe2, mh2, c1, c2, c3, c4⟩ := digest_eq (says := m_says) (dl := m_dealt) (lies := x_found_lies) (steps := x_found_steps) (far := m_farOf) (r0 := x_found_reached) (n0 := x_found_number) (g0 := x_found_greatest) (l0 := x_found_least) (w0 := x_found_fewest) (am := m_endMany) (om := m_endMost) (ol := m_endLeast) (oe := m_endFew) (mh := m_h) (ch := x_estate_now_changes) (rr := nI q) b1 s1 b2 s2 a7 s3 s5 s6 s8 s11 s12 a1 a4 a5 a6
      exact (bok c3).trans ((bok c4).trans ((if_pos ((lg_cmp_eq z z).mpr rfl)).trans (go ⟨n, P, h, K, q, a1, rfl, rfl, a4, a5, a6, a7, rfl, rfl, c1, c2, sd, by omega, rfl, rfl, b7, b8⟩)))
    refine (if_neg c22x).trans ?_
    exact go ⟨n, P, h, K, q, a1, rfl, rfl, a4, a5, a6, a7, rfl, rfl, b1, b2, sd, by omega, rfl, rfl, b7, b8⟩

theorem law_pure {xs : Nat → Int32} {L : Nat} (hL : L ≤ 320) : f_L_law_18 xs L 300 0 z0 0 z0 z0 z0 z0 z0 z0 z0 0 0 0 0 z0 z0 0 0 0 0 0 z0 z0 z0 z0 z0 z0 0 0 0 0 0 0 0 z0 z0 z0 z0 0 0 z0 z0 z0 z0 0 z0 z0 z0 z0 0 0 0 0 0 z0 0 0 0 0 z0 z0 z0 z0 z0 z0 z0 0 = some 1 := by
  refine law_run hL 65 300 0 0 z0 0 z0 z0 z0 z0 z0 z0 z0 0 0 0 0 z0 z0 0 0 0 0 0 z0 z0 z0 z0 z0 z0 0 0 0 0 0 0 0 z0 z0 z0 z0 0 0 z0 z0 z0 z0 0 z0 z0 z0 z0 0 0 0 0 0 z0 0 0 0 0 z0 z0 z0 z0 z0 z0 z0 0 (by omega) (by omega) (by omega) rfl ⟨0, fun _ => 0, 0, fun _ => 0, 0, by omega, rfl, rfl, fun j hj => absurd hj (by omega), fun j hj => absurd hj (by omega), Or.inl rfl, by omega, rfl, rfl, fun j hj => absurd hj (by omega), fun j hj => absurd hj (by omega), ⟨fun _ => 0, 0, 0, fun _ => 0, fun _ => 0, fun _ => 0, fun _ => 0, fun j hj => ⟨rfl, Nat.zero_le 9⟩, fun j hj => ⟨rfl, Nat.zero_le 9⟩, ⟨by decide, fun j hj => absurd hj (by omega)⟩, rfl, fun j hj => absurd hj (by omega), fun j hj => absurd hj (by omega), rfl, by omega, rfl, rfl, fun j hj => absurd hj (by omega), fun j hj => absurd hj (by omega)⟩, by omega, rfl, rfl, fun q => absurd q (by omega), Or.inl ⟨rfl, rfl⟩⟩
