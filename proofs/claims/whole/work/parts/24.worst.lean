/-! ===== which numbers a call takes ===== -/
theorem lt0 {x : Int32} (h : x < 0) {i : Nat} (hi : i < 2147483648) : x ≠ nI i := fun e => nI_pos hi (by rw [← e]; exact h)
theorem ge_ne {x : Int32} {n i : Nat} (h : nI n ≤ x) (hi : i < n) (hn : n < 2147483648) : x ≠ nI i := fun e => nI_ge hi hn (by rw [← e]; exact h)
theorem heir_cases (x : Int32) {h : Nat} (hh : h ≤ 4) : (∃ i, i < h ∧ x = nI i ∧ f_X1_knows (nI h) x = some 1 ∧ f_X7_isHeir (nI h) x = some 1) ∨ (f_X1_knows (nI h) x = some 0 ∧ f_X7_isHeir (nI h) x = some 0) := by
  rcases pk_ix x (n := h) (by omega) with c | c | ⟨i, hi, rfl⟩
  · refine Or.inr ⟨if_pos c, ?_⟩
    exact (bok (show f_X7_within x 0 (nI h - 1) = some 0 from if_pos c)).trans rfl
  · have hx0 : ¬ x < 0 := fun q => by
      have h1 := Int32.lt_iff_toInt_lt.mp q
      have h2 := Int32.le_iff_toInt_le.mp c
      rw [nI_toInt (by omega)] at h2
      have h3 : (0 : Int32).toInt = 0 := rfl
      omega
    refine Or.inr ⟨(if_neg hx0).trans (if_pos c), ?_⟩
    have hlt : nI h - 1 < x := by
      apply Int32.lt_iff_toInt_lt.mpr
      have h2 := Int32.le_iff_toInt_le.mp c
      rw [nI_toInt (by omega)] at h2
      have h3 : (nI h - 1).toInt = (h : Int) - 1 := pk_sub_toInt (b := 1) (by omega) (by omega)
      omega
    exact (bok (show f_X7_within x 0 (nI h - 1) = some 0 from (if_neg hx0).trans (if_pos hlt))).trans rfl
  · refine Or.inl ⟨i, hi, rfl, ?_, ?_⟩
    · exact (if_neg (snlt (a := i) (b := 0))).trans (if_neg (snle (a := h) (b := i)))
    · have e : nI h - 1 = nI (h - 1) := pk_sub (b := 1) (by omega)
      refine (bok (show f_X7_within (nI i) 0 (nI h - 1) = some 1 from ?_)).trans rfl
      rw [e]
      exact (if_neg (snlt (a := i) (b := 0))).trans (if_neg (snlt (a := h - 1) (b := i)))
theorem within_cases (x : Int32) (lo n : Nat) (hn : 0 < n) (hs : lo + n < 1000) : (∃ i, i < n ∧ x = nI (lo + i) ∧ f_X7_within x (nI lo) (nI (lo + n - 1)) = some 1) ∨ ((∀ i, i < n → x ≠ nI (lo + i)) ∧ (x < nI lo ∨ nI (lo + n - 1) < x) ∧ f_X7_within x (nI lo) (nI (lo + n - 1)) = some 0) := by
  by_cases c1 : x < nI lo
  · exact Or.inr ⟨fun i hi e => by rw [e] at c1; exact nI_nlt (by omega) (by omega) c1, Or.inl c1, if_pos c1⟩
  · by_cases c2 : nI (lo + n - 1) < x
    · exact Or.inr ⟨fun i hi e => by rw [e] at c2; exact nI_nlt (by omega) (by omega) c2, Or.inr c2, (if_neg c1).trans (if_pos c2)⟩
    · have h1 : ¬ x.toInt < lo := fun q => c1 (Int32.lt_iff_toInt_lt.mpr (by rw [nI_toInt (by omega)]; exact q))
      have h2 : ¬ ((lo + n - 1 : Nat) : Int) < x.toInt := fun q => c2 (Int32.lt_iff_toInt_lt.mpr (by rw [nI_toInt (by omega)]; exact q))
      refine Or.inl ⟨x.toInt.toNat - lo, by omega, ?_, (if_neg c1).trans (if_neg c2)⟩
      apply Int32.toInt_inj.mp
      rw [nI_toInt (by omega)]
      omega
theorem thing_cases (x : Int32) {h : Nat} (hh : h ≤ 4) (h0 : 0 < h) : (∃ t, t < 4 ∧ x = nI t ∧ f_X6_isThing x = some 1 ∧ f_X7_isThing (nI h) x = some 1) ∨ (f_X6_isThing x = some 0 ∧ f_X7_isThing (nI h) x = some 0) := by
  have hnp : ¬ nI h ≤ 0 := nI_nle h0 (by omega)
  rcases within_cases x 0 4 (by omega) (by omega) with ⟨t, ht, e, w⟩ | ⟨_, c, w⟩
  · rw [Nat.zero_add] at e
    subst e
    refine Or.inl ⟨t, ht, rfl, ?_, ?_⟩
    · exact (if_neg (snlt (a := t) (b := 0))).trans (if_neg (snle (a := 4) (b := t)))
    · exact (if_neg hnp).trans ((bok w).trans rfl)
  · refine Or.inr ⟨?_, (if_neg hnp).trans ((bok w).trans rfl)⟩
    rcases c with c | c
    · exact if_pos c
    · have h1 := Int32.lt_iff_toInt_lt.mp c
      have h2 : (nI 3).toInt = 3 := rfl
      have h3 : ¬ x < 0 := fun q => by
        have := Int32.lt_iff_toInt_lt.mp q
        have h4 : (0 : Int32).toInt = 0 := rfl
        rw [show 0 + 4 - 1 = 3 by omega] at h1
        omega
      refine (if_neg h3).trans (if_pos ?_)
      apply Int32.le_iff_toInt_le.mpr
      have h4 : (4 : Int32).toInt = 4 := rfl
      rw [show 0 + 4 - 1 = 3 by omega] at h1
      omega
/-! ===== the worst way ===== -/
def ptd (h c : Nat) : Bool := (List.range h).all (fun i => (List.range h).all (fun j => i == j || !(dg h c i == dg h c j)))
theorem ptd_iff {h c : Nat} : ptd h c = true ↔ ∀ i, i < h → ∀ j, j < h → i ≠ j → dg h c i ≠ dg h c j := by
  unfold ptd
  simp only [List.all_eq_true, List.mem_range, Bool.or_eq_true, beq_iff_eq, Bool.not_eq_true', beq_eq_false_iff_ne]
  constructor
  · intro q i hi j hj hne
    rcases q i hi j hj with e | e
    · exact absurd e hne
    · exact e
  · intro q i hi j hj
    by_cases e : i = j
    · exact Or.inl e
    · exact Or.inr (q i hi j hj e)
set_option maxRecDepth 20000 in
theorem parted_tab : ∀ h, h < 5 → 2 ≤ h → ∀ c, c < 256 → c < 4 ^ h → f_X1_isParted (nI h) (nI c) = some (if ptd h c = true then 1 else 0) := by decide +kernel
theorem pow_tab : ∀ h, h < 5 → ((1 : Int32) <<< ((2 * nI h) &&& 31)) = nI (4 ^ h) := by decide +kernel
def wls (s : Option (Nat × Nat)) : Nat := match s with | none => 37 | some p => p.2
def wlw (s : Option (Nat × Nat)) : Nat := match s with | none => 0 | some p => p.1
def wst (W : Nat → Nat) (h : Nat) : Nat → Option (Nat × Nat)
  | 0 => none
  | c + 1 => if ptd h c = true ∧ sm W h c h < wls (wst W h c) then some (c, sm W h c h) else wst W h c
theorem wst_inv {W : Nat → Nat} {worths : Nat → Int32} (hW : okW W worths) {h : Nat} (hh : h ≤ 4) : ∀ c, (wls (wst W h c) ≤ 37 ∧ wlw (wst W h c) ≤ c) ∧ ∀ p, wst W h c = some p → p.1 < c ∧ ptd h p.1 = true ∧ p.2 = sm W h p.1 h ∧ p.2 ≤ 36 := by
  intro c
  induction c with
  | zero => exact ⟨⟨Nat.le_refl _, Nat.le_refl _⟩, fun p e => by cases e⟩
  | succ c ih =>
    have hs := sm_le hW (h := h) (x := c) h hh
    unfold wst
    by_cases q : ptd h c = true ∧ sm W h c h < wls (wst W h c)
    · rw [if_pos q]
      exact ⟨⟨by show sm W h c h ≤ 37; omega, by show c ≤ c + 1; omega⟩, fun p e => by cases e; exact ⟨by show c < c + 1; omega, q.1, rfl, by show sm W h c h ≤ 36; omega⟩⟩
    · rw [if_neg q]
      exact ⟨⟨ih.1.1, by have := ih.1.2; omega⟩, fun p e => by obtain ⟨a, b⟩ := ih.2 p e; exact ⟨by omega, b⟩⟩
theorem wst_some {W : Nat → Nat} {worths : Nat → Int32} (hW : okW W worths) {h c0 : Nat} (hh : h ≤ 4) (hp : ptd h c0 = true) : ∀ c, c0 < c → ∃ p, wst W h c = some p := by
  intro c
  induction c with
  | zero => intro q; omega
  | succ c ih =>
    intro q
    unfold wst
    by_cases t : ptd h c = true ∧ sm W h c h < wls (wst W h c)
    · rw [if_pos t]; exact ⟨_, rfl⟩
    · rw [if_neg t]
      by_cases e : c0 = c
      · subst e
        cases hw : wst W h c0 with
        | none =>
          rw [hw] at t
          have hs := sm_le hW (h := h) (x := c0) h hh
          exact absurd ⟨hp, by show sm W h c0 h < 37; omega⟩ t
        | some p => exact ⟨p, rfl⟩
      · exact ih (by omega)
theorem worst_exists {W : Nat → Nat} {worths : Nat → Int32} (hW : okW W worths) {h : Nat} (h2 : 2 ≤ h) (hh : h ≤ 4) : ∃ p, wst W h (4 ^ h) = some p ∧ p.1 < 4 ^ h ∧ ptd h p.1 = true ∧ p.2 = sm W h p.1 h ∧ p.2 ≤ 36 := by
  have hex : ∃ c0, c0 < 4 ^ h ∧ ptd h c0 = true := by
    rcases (show h = 2 ∨ h = 3 ∨ h = 4 by omega) with rfl | rfl | rfl
    · exact ⟨1, by decide, by decide⟩
    · exact ⟨6, by decide, by decide⟩
    · exact ⟨27, by decide, by decide⟩
  obtain ⟨c0, a, b⟩ := hex
  obtain ⟨p, hp⟩ := wst_some hW hh b (4 ^ h) a
  exact ⟨p, hp, (wst_inv hW hh (4 ^ h)).2 p hp⟩
theorem worstLie_loop {W : Nat → Nat} {worths : Nat → Int32} (hW : okW W worths) {h : Nat} (h2 : 2 ≤ h) (hh : h ≤ 4) :
    ∀ (d n c : Nat), d = 4 ^ h - c → c ≤ 4 ^ h → d < n → f_X1_worstLie_7 worths (nI h) n (nI (wlw (wst W h c))) (nI (wls (wst W h c))) (nI c) = some (nI (wlw (wst W h (4 ^ h)))) := by
  have hp := p4 hh
  intro d
  induction d with
  | zero =>
    intro n c hd hc hn
    have h4 : c = 4 ^ h := by omega
    subst h4
    obtain ⟨n, rfl⟩ : ∃ m, n = m + 1 := ⟨n - 1, by omega⟩
    by_cases q : 256 ≤ 4 ^ h
    · exact if_pos (sle (a := 256) (b := 4 ^ h))
    · refine (if_neg (snle (a := 256) (b := 4 ^ h))).trans ?_
      rw [pow_tab h (by omega)]
      exact if_pos (sle (a := 4 ^ h) (b := 4 ^ h))
  | succ d ih =>
    intro n c hd hc hn
    obtain ⟨n, rfl⟩ : ∃ m, n = m + 1 := ⟨n - 1, by omega⟩
    have hcl : c < 4 ^ h := by omega
    have hr := ih n (c + 1) (by omega) (by omega) (by omega)
    rw [show wst W h (c + 1) = if ptd h c = true ∧ sm W h c h < wls (wst W h c) then some (c, sm W h c h) else wst W h c from rfl] at hr
    have hs := sm_le hW (h := h) (x := c) h hh
    have hv := (wst_inv hW hh (h := h) c).1
    refine (if_neg (snle (a := 256) (b := c))).trans ?_
    rw [pow_tab h (by omega)]
    refine (if_neg (snle (a := 4 ^ h) (b := c))).trans ?_
    refine (bok (parted_tab h (by omega) h2 c (by omega) hcl)).trans ?_
    rw [nI_1]
    by_cases t : ptd h c = true
    · rw [if_pos t]
      refine (if_neg (by decide)).trans ?_
      refine (bok (sumOf_ok hW hh hcl)).trans ?_
      by_cases q : sm W h c h < wls (wst W h c)
      · rw [if_pos ⟨t, q⟩] at hr
        refine (if_neg (snle (a := wls (wst W h c)) (b := sm W h c h))).trans ?_
        exact (bok (sumOf_ok hW hh hcl)).trans hr
      · rw [if_neg (fun z => q z.2)] at hr
        exact (if_pos (sle (a := wls (wst W h c)) (b := sm W h c h))).trans hr
    · rw [if_neg t]
      rw [if_neg (fun z => t z.1)] at hr
      exact (if_pos rfl).trans hr
theorem worstLie_ok {W : Nat → Nat} {worths : Nat → Int32} (hW : okW W worths) {h : Nat} (h2 : 2 ≤ h) (hh : h ≤ 4) : f_X1_worstLie worths (nI h) = some (nI (wlw (wst W h (4 ^ h)))) := by
  have hp := p4 hh
  exact worstLie_loop hW h2 hh (4 ^ h) 300 0 (Nat.sub_zero _).symm (Nat.zero_le _) (by omega)
/-! the reference -/
def ub (h c : Nat) : Nat → Nat
  | 0 => 0
  | i + 1 => ub h c i ||| 2 ^ dg h c i
theorem ub_ok {h c : Nat} : ∀ i, ub h c i < 16 ∧ ∀ t, (ub h c i).testBit t = true ↔ ∃ j, j < i ∧ dg h c j = t := by
  intro i
  induction i with
  | zero => exact ⟨by show 0 < 16; decide, fun t => ⟨fun q => by simp [ub] at q, fun ⟨j, hj, _⟩ => absurd hj (by omega)⟩⟩
  | succ i ih =>
    refine ⟨(bor_tab _ ih.1 _ (dg_lt h c i)).2, fun t => ?_⟩
    rw [show ub h c (i + 1) = ub h c i ||| 2 ^ dg h c i from rfl, bit_or, Bool.or_eq_true, decide_eq_true_iff, ih.2 t]
    constructor
    · rintro (⟨j, hj, e⟩ | e)
      · exact ⟨j, by omega, e⟩
      · exact ⟨i, by omega, e⟩
    · rintro ⟨j, hj, e⟩
      by_cases q : j = i
      · subst q; exact Or.inr e
      · exact Or.inl ⟨j, by omega, e⟩
theorem thingBy_ok {h x i : Nat} (hh : h ≤ 4) (hx : x < 4 ^ h) (hi : i < h) : f_X7_thingBy (nI h) (nI x) (nI i) = some (nI (dg h x i)) := thing_ok hh hx hi
theorem worstBy_loop {W : Nat → Nat} {worths : Nat → Int32} (hW : okW W worths) {h c : Nat} (hh : h ≤ 4) (hc : c < 4 ^ h) :
    ∀ (d n i : Nat), d = h - i → i ≤ h → d < n → (∀ j, j < i → ∀ k, k < i → j ≠ k → dg h c j ≠ dg h c k) → f_X7_worstBy_7 (nI h) worths n (nI c) (nI (ub h c i)) (nI (sm W h c i)) (nI i) = some (if ptd h c = true then nI (sm W h c h) else 268435456) := by
  intro d
  induction d with
  | zero =>
    intro n i hd hi hn hu
    have h4 : i = h := by omega
    subst h4
    obtain ⟨n, rfl⟩ : ∃ m, n = m + 1 := ⟨n - 1, by omega⟩
    rw [if_pos (ptd_iff.mpr hu)]
    exact if_pos (sle (a := i) (b := i))
  | succ d ih =>
    intro n i hd hi hn hu
    obtain ⟨n, rfl⟩ : ∃ m, n = m + 1 := ⟨n - 1, by omega⟩
    have hdl := dg_lt h c i
    refine (if_neg (snle (a := h) (b := i))).trans ?_
    refine (bok (thingBy_ok hh hc (by omega))).trans ?_
    refine (bok (isIn_ok (ub_ok i).1 hdl)).trans ?_
    cases hb : (ub h c i).testBit (dg h c i) with
    | true =>
      obtain ⟨j, hj, e⟩ := ((ub_ok (h := h) (c := c) i).2 (dg h c i)).mp hb
      have hno : ¬ ptd h c = true := fun q => ptd_iff.mp q j (by omega) i (by omega) (by omega) e
      rw [if_neg hno]
      exact if_neg (by decide)
    | false =>
      refine (if_pos (by decide)).trans ?_
      rw [t4n]
      refine (bok (rd_ok (i := 4 * i + dg h c i))).trans ?_
      rw [(hW (4 * i + dg h c i) (by omega)).1, (bor_tab _ (ub_ok i).1 _ hdl).1, nI_add, nI_1]
      have fresh : ∀ j, j < i → dg h c j ≠ dg h c i := fun j hj e => by
        have := ((ub_ok (h := h) (c := c) i).2 (dg h c i)).mpr ⟨j, hj, e⟩
        rw [hb] at this
        cases this
      refine ih n (i + 1) (by omega) (by omega) (by omega) (fun j hj k hk hne => ?_)
      by_cases q : j = i
      · subst q
        exact Ne.symm (fresh k (by omega))
      · by_cases r : k = i
        · subst r
          exact fresh j (by omega)
        · exact hu j (by omega) k (by omega) hne
theorem worstBy_ok {W : Nat → Nat} {worths : Nat → Int32} (hW : okW W worths) {h c : Nat} (hh : h ≤ 4) (hc : c < 4 ^ h) : f_X7_worstBy (nI h) worths (nI c) = some (if ptd h c = true then nI (sm W h c h) else 268435456) :=
  worstBy_loop hW hh hc h 300 0 (by omega) (by omega) (by omega) (fun j hj => absurd hj (by omega))
def mls (s : Option (Nat × Nat)) : Int32 := match s with | none => 268435456 | some p => nI p.2
def mlw (s : Option (Nat × Nat)) : Int32 := match s with | none => -1 | some p => nI p.1
theorem worstNow_loop {W : Nat → Nat} {worths : Nat → Int32} (hW : okW W worths) {h : Nat} (h2 : 2 ≤ h) (hh : h ≤ 4) (what v : Int32) (hend : ∀ n, f_X7_worstNow_8 (nI h) worths (n + 1) what (mlw (wst W h (4 ^ h))) (mls (wst W h (4 ^ h))) (nI (4 ^ h)) = some v) :
    ∀ (d n c : Nat), d = 4 ^ h - c → c ≤ 4 ^ h → d < n → f_X7_worstNow_8 (nI h) worths n what (mlw (wst W h c)) (mls (wst W h c)) (nI c) = some v := by
  have hp := p4 hh
  intro d
  induction d with
  | zero =>
    intro n c hd hc hn
    have h4 : c = 4 ^ h := by omega
    subst h4
    obtain ⟨n, rfl⟩ : ∃ m, n = m + 1 := ⟨n - 1, by omega⟩
    exact hend n
  | succ d ih =>
    intro n c hd hc hn
    obtain ⟨n, rfl⟩ : ∃ m, n = m + 1 := ⟨n - 1, by omega⟩
    have hcl : c < 4 ^ h := by omega
    have hr := ih n (c + 1) (by omega) (by omega) (by omega)
    rw [show wst W h (c + 1) = if ptd h c = true ∧ sm W h c h < wls (wst W h c) then some (c, sm W h c h) else wst W h c from rfl] at hr
    have hs := sm_le hW (h := h) (x := c) h hh
    have hv := (wst_inv hW hh (h := h) c)
    refine Eq.trans (if_neg (c := ((1 : Int32) <<< ((2 * nI h) &&& 31)) ≤ nI c) (by rw [pow_tab h (by omega)]; exact snle (a := 4 ^ h) (b := c))) ?_
    refine (bok (worstBy_ok hW hh hcl)).trans ?_
    -- whether the new one is less
    have key : ∀ v8 : Int32, (mls (wst W h c) ≤ v8 ∧ f_X7_worstNow_8 (nI h) worths n what (mlw (wst W h c)) (mls (wst W h c)) (nI (c + 1)) = some v) ∨ (¬ mls (wst W h c) ≤ v8 ∧ f_X7_worstNow_8 (nI h) worths n what (nI c) v8 (nI (c + 1)) = some v) → (if mls (wst W h c) ≤ v8 then f_X7_worstNow_41 (nI h) worths (f_X7_worstNow_8 (nI h) worths n) what (mls (wst W h c)) (nI c) v8 (mlw (wst W h c)) else f_X7_worstNow_41 (nI h) worths (f_X7_worstNow_8 (nI h) worths n) what (mls (wst W h c)) (nI c) v8 (nI c)) = some v := by
      intro v8 hk
      rcases hk with ⟨k1, k2⟩ | ⟨k1, k2⟩
      · refine (if_pos k1).trans ?_
        refine (if_pos k1).trans ?_
        show f_X7_worstNow_8 (nI h) worths n what (mlw (wst W h c)) (mls (wst W h c)) (nI c + 1) = some v
        rw [nI_1]; exact k2
      · refine (if_neg k1).trans ?_
        refine (if_neg k1).trans ?_
        show f_X7_worstNow_8 (nI h) worths n what (nI c) v8 (nI c + 1) = some v
        rw [nI_1]; exact k2
    refine key _ ?_
    by_cases t : ptd h c = true
    · rw [if_pos t]
      by_cases q : sm W h c h < wls (wst W h c)
      · rw [if_pos ⟨t, q⟩] at hr
        refine Or.inr ⟨?_, hr⟩
        cases hw : wst W h c with
        | none => exact snle (a := 268435456) (b := sm W h c h)
        | some p =>
          rw [hw] at q hv
          have := (hv.2 p rfl).2.2.2
          exact snle (a := p.2) (b := sm W h c h) q (by omega)
      · rw [if_neg (fun z => q z.2)] at hr
        refine Or.inl ⟨?_, hr⟩
        cases hw : wst W h c with
        | none => rw [hw] at q; exact absurd (show sm W h c h < 37 by omega) q
        | some p =>
          rw [hw] at q
          exact sle (a := p.2) (b := sm W h c h) (Nat.not_lt.mp q) (by omega)
    · rw [if_neg t]
      rw [if_neg (fun z => t z.1)] at hr
      refine Or.inl ⟨?_, hr⟩
      cases hw : wst W h c with
      | none => exact sle (a := 268435456) (b := 268435456)
      | some p =>
        have := (hv.2 p hw).2.2.2
        exact sle (a := p.2) (b := 268435456)
theorem worstNow_ok {W : Nat → Nat} {worths : Nat → Int32} (hW : okW W worths) {h : Nat} (h2 : 2 ≤ h) (hh : h ≤ 4) (what v : Int32) (hend : ∀ n, f_X7_worstNow_8 (nI h) worths (n + 1) what (mlw (wst W h (4 ^ h))) (mls (wst W h (4 ^ h))) (nI (4 ^ h)) = some v) : f_X7_worstNow (nI h) worths what = some v := by
  have hp := p4 hh
  exact worstNow_loop hW h2 hh what v hend (4 ^ h) 300 0 (Nat.sub_zero _).symm (Nat.zero_le _) (by omega)
/-- both sides, for the numbers that are taken -/
theorem worst_0 {W : Nat → Nat} {worths mw : Nat → Int32} (hW : okW W worths) (hW2 : okW W mw) {h : Nat} (h2 : 2 ≤ h) (hh : h ≤ 4) : ∃ r, f_X6_worst worths (nI h) 0 = some r ∧ f_X7_worstNow (nI h) mw 0 = some r := by
  obtain ⟨p, hp, p1, p2, p3, p4'⟩ := worst_exists hW h2 hh
  have hlw : wlw (wst W h (4 ^ h)) = p.1 := by rw [hp]; rfl
  refine ⟨nI p.2, ?_, ?_⟩
  · have hneg : ((0 : Int32) - 10) < 0 := by decide
    refine (if_pos hneg).trans ?_
    show f_X6_worst_19 worths (nI h) 0 (0 - 10) 0 = _
    refine (if_pos (rfl : (0 : Int32) = 0)).trans ?_
    refine (if_neg (nI_ne0 (by omega) (by omega))).trans ?_
    refine (if_pos rfl).trans ?_
    refine (bok (worstLie_ok hW h2 hh)).trans ?_
    refine (if_pos rfl).trans ?_
    rw [hlw, p3]
    exact (bok (sumOf_ok hW hh p1)).trans rfl
  · refine worstNow_ok hW2 h2 hh 0 (nI p.2) (fun n => ?_)
    refine Eq.trans (if_pos (c := ((1 : Int32) <<< ((2 * nI h) &&& 31)) ≤ nI (4 ^ h)) (by rw [pow_tab h (by omega)]; exact sle (a := 4 ^ h) (b := 4 ^ h) (Nat.le_refl _) (by have := p4 hh; omega))) ?_
    refine (if_pos rfl).trans ?_
    rw [hp]; rfl
theorem worst_i {W : Nat → Nat} {worths mw : Nat → Int32} (hW : okW W worths) (hW2 : okW W mw) {h : Nat} (h2 : 2 ≤ h) (hh : h ≤ 4) {i : Nat} (hi : i < 4) : ∃ r, f_X6_worst worths (nI h) (nI (10 + i)) = some r ∧ f_X7_worstNow (nI h) mw (nI (10 + i)) = some r := by
  obtain ⟨p, hp, p1, p2, p3, p4'⟩ := worst_exists hW h2 hh
  have hlw : wlw (wst W h (4 ^ h)) = p.1 := by rw [hp]; rfl
  have e10 : nI (10 + i) - 10 = nI i := by
    have := pk_sub (a := 10 + i) (b := 10) (by omega)
    rwa [show 10 + i - 10 = i by omega] at this
  have hne : ¬ nI (10 + i) = 0 := nI_ne0 (by omega) (by omega)
  have cls : ∀ v, f_X6_worst_31 worths (nI h) (nI i) 1 = some v → f_X6_worst worths (nI h) (nI (10 + i)) = some v := by
    intro v hv
    unfold f_X6_worst
    rw [e10]
    refine (if_neg (snlt (a := i) (b := 0))).trans ?_
    refine (if_neg (snle (a := 4) (b := i))).trans ?_
    refine (if_neg hne).trans ?_
    exact (if_neg (by decide)).trans hv
  have mdl : ∀ v, (f_X7_isHeir (nI h) (nI i)).bind (fun v3 => (if v3 = 0 then some (-1) else (f_X7_thingBy (nI h) (nI p.1) (nI i)).bind (fun v6 => some v6))) = some v → f_X7_worstNow (nI h) mw (nI (10 + i)) = some v := by
    intro v hv
    refine worstNow_ok hW2 h2 hh _ v (fun n => ?_)
    refine Eq.trans (if_pos (c := ((1 : Int32) <<< ((2 * nI h) &&& 31)) ≤ nI (4 ^ h)) (by rw [pow_tab h (by omega)]; exact sle (a := 4 ^ h) (b := 4 ^ h) (Nat.le_refl _) (by have := p4 hh; omega))) ?_
    refine (if_neg hne).trans ?_
    rw [e10, hp]
    exact hv
  rcases heir_cases (nI i) hh with ⟨j, hj, e, k1, k2⟩ | ⟨k1, k2⟩
  · have hji : j = i := by
      have := (nI_eq (a := i) (b := j) (by omega) (by omega)).mp e
      omega
    subst hji
    refine ⟨nI (dg h p.1 j), cls _ ?_, mdl _ ?_⟩
    · refine (if_neg (nI_ne0 (by omega) (by omega))).trans ?_
      refine (if_neg (by decide)).trans ?_
      refine (bok k1).trans ?_
      refine (if_neg (by decide)).trans ?_
      refine (bok (worstLie_ok hW h2 hh)).trans ?_
      refine (if_neg (by decide)).trans ?_
      rw [hlw]
      exact (bok (thing_ok hh p1 hj)).trans rfl
    · refine (bok k2).trans ?_
      refine (if_neg (by decide)).trans ?_
      exact (bok (thingBy_ok hh p1 hj)).trans rfl
  · refine ⟨-1, cls _ ?_, mdl _ ?_⟩
    · refine (if_neg (nI_ne0 (by omega) (by omega))).trans ?_
      refine (if_neg (by decide)).trans ?_
      refine (bok k1).trans ?_
      exact if_pos rfl
    · refine (bok k2).trans ?_
      exact if_pos rfl
