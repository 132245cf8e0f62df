/-! ===== what is heard ===== -/
def okH (h n : Nat) (o a b m : Nat → Nat) (fo fa fb fm : Nat → Int32) : Prop := ∀ j, j < n → fo j = nI (o j) ∧ o j < h ∧ fa j = nI (a j) ∧ a j < 4 ∧ fb j = nI (b j) ∧ b j < 4 ∧ fm j = nI (m j) ∧ m j ≤ 1
def wf (W : Nat → Nat) (i t v s : Nat) : Nat := if s = t then v else W (4 * i + s)
def ck (W : Nat → Nat) (o a b m : Nat → Nat) (i t v k : Nat) : Bool := !(o k == i) || (decide (wf W i t v (b k) < wf W i t v (a k)) == (m k == 1))
def alB (W : Nat → Nat) (o a b m : Nat → Nat) (i t v : Nat) : Nat → Bool
  | 0 => true
  | k + 1 => alB W o a b m i t v k && ck W o a b m i t v k
theorem alB_false {W : Nat → Nat} {o a b m : Nat → Nat} {i t v k : Nat} (h : alB W o a b m i t v k = false) : ∀ n, k ≤ n → alB W o a b m i t v n = false := by
  intro n
  induction n with
  | zero => intro hk; rw [show k = 0 by omega] at h; exact h
  | succ n ih =>
    intro hk
    by_cases e : k = n + 1
    · subst e; exact h
    · show (alB W o a b m i t v n && ck W o a b m i t v n) = false
      rw [ih (by omega)]; rfl
theorem wf_le {W : Nat → Nat} {worths : Nat → Int32} (hW : okW W worths) {i t v s : Nat} (hi : i < 4) (hv : v ≤ 9) (hs : s < 4) : wf W i t v s ≤ 9 := by
  unfold wf
  split
  · exact hv
  · exact (hW (4 * i + s) (by omega)).2
theorem would_step {W : Nat → Nat} {o a b m : Nat → Nat} {h hn : Nat} {worths fo fa fb fm : Nat → Int32} (hW : okW W worths) (hH : okH h hn o a b m fo fa fb fm) (hh : h ≤ 4) (hn6 : hn ≤ 6) {i t v k n : Nat} (hi : i < h) (ht : t < 4) (hv : v ≤ 9) (hk : k < hn) :
    f_X1_wouldBeSo_3 worths fo fa fb fm (nI hn) (n + 1) (nI i) (nI t) (nI v) (nI k) = if ck W o a b m i t v k = true then f_X1_wouldBeSo_3 worths fo fa fb fm (nI hn) n (nI i) (nI t) (nI v) (nI (k + 1)) else some 0 := by
  obtain ⟨e1, e2, e3, e4, e5, e6, e7, e8⟩ := hH k hk
  have wa := wf_le hW (i := i) (t := t) (s := a k) (by omega) hv e4
  have wb := wf_le hW (i := i) (t := t) (s := b k) (by omega) hv e6
  -- from the second worth on
  have tail : f_X1_wouldBeSo_98 worths fo fa fb fm (nI hn) (f_X1_wouldBeSo_3 worths fo fa fb fm (nI hn) n) (nI i) (nI t) (nI v) (nI k) (nI (wf W i t v (a k))) (nI (wf W i t v (b k))) = if ck W o a b m i t v k = true then f_X1_wouldBeSo_3 worths fo fa fb fm (nI hn) n (nI i) (nI t) (nI v) (nI (k + 1)) else some 0 := by
    refine (bok (get_ok (i := k))).trans ?_
    have t2 : ∀ k0 : Int32, (k0 = 1 ∧ m k = 1) ∨ (k0 = 0 ∧ m k = 0) → f_X1_wouldBeSo_121 worths fo fa fb fm (nI hn) (f_X1_wouldBeSo_3 worths fo fa fb fm (nI hn) n) (nI i) (nI t) (nI v) (nI k) (nI (wf W i t v (a k))) (nI (wf W i t v (b k))) k0 = if ck W o a b m i t v k = true then f_X1_wouldBeSo_3 worths fo fa fb fm (nI hn) n (nI i) (nI t) (nI v) (nI (k + 1)) else some 0 := by
      intro k0 hk0
      refine (bok (get_ok (i := k))).trans ?_
      rw [e1]
      unfold ck
      by_cases co : o k = i
      · refine (if_pos (by rw [co])).trans ?_
        have hoi : (!(o k == i)) = false := by rw [co]; simp
        rw [hoi, Bool.false_or]
        by_cases cw : wf W i t v (b k) < wf W i t v (a k)
        · refine (if_neg (snle (a := wf W i t v (a k)) (b := wf W i t v (b k)))).trans ?_
          rw [decide_eq_true cw]
          rcases hk0 with ⟨rfl, em⟩ | ⟨rfl, em⟩
          · rw [em]
            refine (if_pos rfl).trans ?_
            rw [if_pos (by decide), nI_1]
          · rw [em]
            refine (if_neg (by decide)).trans ?_
            rw [if_neg (by decide)]
        · refine (if_pos (sle (a := wf W i t v (a k)) (b := wf W i t v (b k)))).trans ?_
          rw [decide_eq_false cw]
          rcases hk0 with ⟨rfl, em⟩ | ⟨rfl, em⟩
          · rw [em]
            refine (if_neg (by decide)).trans ?_
            rw [if_neg (by decide)]
          · rw [em]
            refine (if_pos rfl).trans ?_
            rw [if_pos (by decide), nI_1]
      · refine (if_neg (sne (a := o k) (b := i))).trans ?_
        have hoi : (!(o k == i)) = true := by
          rw [beq_eq_false_iff_ne.mpr co]; rfl
        rw [hoi, Bool.true_or, if_pos rfl, nI_1]
    rw [e7]
    rcases (show m k = 0 ∨ m k = 1 by omega) with em | em
    · rw [em]
      refine (if_neg (by decide)).trans ?_
      exact t2 0 (Or.inr ⟨rfl, em⟩)
    · rw [em]
      refine (if_pos rfl).trans ?_
      exact t2 1 (Or.inl ⟨rfl, em⟩)
  have mid : f_X1_wouldBeSo_73 worths fo fa fb fm (nI hn) (f_X1_wouldBeSo_3 worths fo fa fb fm (nI hn) n) (nI i) (nI t) (nI v) (nI k) (nI (b k)) (nI (wf W i t v (a k))) = if ck W o a b m i t v k = true then f_X1_wouldBeSo_3 worths fo fa fb fm (nI hn) n (nI i) (nI t) (nI v) (nI (k + 1)) else some 0 := by
    by_cases c : b k = t
    · refine (if_pos (by rw [c])).trans ?_
      have : wf W i t v (b k) = v := if_pos c
      rw [this] at tail
      exact tail
    · refine (if_neg (sne (a := b k) (b := t))).trans ?_
      refine (bok (at_ok (i := i) (t := b k))).trans ?_
      have : wf W i t v (b k) = W (4 * i + b k) := if_neg c
      rw [(hW (4 * i + b k) (by omega)).1]
      rw [this] at tail
      exact tail
  refine (if_neg (snle (a := 6) (b := k))).trans ?_
  refine (if_neg (snle (a := hn) (b := k))).trans ?_
  refine (bok (get_ok (i := k))).trans ?_
  refine (bok (get_ok (i := k))).trans ?_
  rw [e3, e5]
  by_cases c : a k = t
  · refine (if_pos (by rw [c])).trans ?_
    have : wf W i t v (a k) = v := if_pos c
    rw [this] at mid
    exact mid
  · refine (if_neg (sne (a := a k) (b := t))).trans ?_
    refine (bok (at_ok (i := i) (t := a k))).trans ?_
    have : wf W i t v (a k) = W (4 * i + a k) := if_neg c
    rw [(hW (4 * i + a k) (by omega)).1]
    rw [this] at mid
    exact mid
theorem would_loop {W : Nat → Nat} {o a b m : Nat → Nat} {h hn : Nat} {worths fo fa fb fm : Nat → Int32} (hW : okW W worths) (hH : okH h hn o a b m fo fa fb fm) (hh : h ≤ 4) (hn6 : hn ≤ 6) {i t v : Nat} (hi : i < h) (ht : t < 4) (hv : v ≤ 9) :
    ∀ (d n k : Nat), d = hn - k → k ≤ hn → d < n → alB W o a b m i t v k = true → f_X1_wouldBeSo_3 worths fo fa fb fm (nI hn) n (nI i) (nI t) (nI v) (nI k) = some (if alB W o a b m i t v hn = true then 1 else 0) := by
  intro d
  induction d with
  | zero =>
    intro n k hd hk hn' ha
    have h4 : k = hn := by omega
    subst h4
    obtain ⟨n, rfl⟩ : ∃ m, n = m + 1 := ⟨n - 1, by omega⟩
    rw [if_pos ha]
    by_cases q : 6 ≤ k
    · exact if_pos (sle (a := 6) (b := k))
    · refine (if_neg (snle (a := 6) (b := k))).trans ?_
      exact if_pos (sle (a := k) (b := k))
  | succ d ih =>
    intro n k hd hk hn' ha
    obtain ⟨n, rfl⟩ : ∃ m, n = m + 1 := ⟨n - 1, by omega⟩
    rw [would_step hW hH hh hn6 hi ht hv (by omega)]
    cases hc : ck W o a b m i t v k with
    | true =>
      rw [if_pos rfl]
      exact ih n (k + 1) (by omega) (by omega) (by omega) (by show (alB W o a b m i t v k && ck W o a b m i t v k) = true; rw [ha, hc]; rfl)
    | false =>
      rw [if_neg (by decide)]
      have : alB W o a b m i t v (k + 1) = false := by show (alB W o a b m i t v k && ck W o a b m i t v k) = false; rw [ha, hc]; rfl
      rw [alB_false this hn (by omega)]
      rfl
theorem would_ok {W : Nat → Nat} {o a b m : Nat → Nat} {h hn : Nat} {worths fo fa fb fm : Nat → Int32} (hW : okW W worths) (hH : okH h hn o a b m fo fa fb fm) (hh : h ≤ 4) (hn6 : hn ≤ 6) {i t v : Nat} (hi : i < h) (ht : t < 4) (hv : v ≤ 9) : f_X1_wouldBeSo worths fo fa fb fm (nI hn) (nI i) (nI t) (nI v) = some (if alB W o a b m i t v hn = true then 1 else 0) :=
  would_loop hW hH hh hn6 hi ht hv hn 300 0 (by omega) (by omega) (by omega) rfl
/-! the reference -/
theorem worthIf_ok {W : Nat → Nat} {worths : Nat → Int32} (hW : okW W worths) {i s t v : Nat} (hi : i < 4) (hs : s < 4) (ht : t < 4) : f_X7_worthIf worths (nI i) (nI s) (nI t) (nI v) = some (nI (wf W i t v s)) := by
  unfold wf
  by_cases c : s = t
  · rw [if_pos c]
    exact if_pos (by rw [c])
  · rw [if_neg c]
    refine (if_neg (sne (a := s) (b := t))).trans ?_
    rw [t4n]
    refine (bok (rd_ok (i := 4 * i + s))).trans ?_
    rw [(hW (4 * i + s) (by omega)).1]
def bn (c : Bool) : Nat := if c = true then 1 else 0
theorem could_step {W : Nat → Nat} {o a b m : Nat → Nat} {h hn : Nat} {worths fo fa fb fm : Nat → Int32} (hW : okW W worths) (hH : okH h hn o a b m fo fa fb fm) (hh : h ≤ 4) (hn6 : hn ≤ 6) {i t v k n : Nat} (hi : i < h) (ht : t < 4) (hv : v ≤ 9) (hk : k < hn) (c : Bool) :
    f_X7_couldBe_6 worths (nI hn) fo fa fb fm (n + 1) (nI i) (nI t) (nI v) (nI (bn c)) (nI k) = f_X7_couldBe_6 worths (nI hn) fo fa fb fm n (nI i) (nI t) (nI v) (nI (bn (c && ck W o a b m i t v k))) (nI (k + 1)) := by
  obtain ⟨e1, e2, e3, e4, e5, e6, e7, e8⟩ := hH k hk
  have wa := wf_le hW (i := i) (t := t) (s := a k) (by omega) hv e4
  have wb := wf_le hW (i := i) (t := t) (s := b k) (by omega) hv e6
  have goT : f_X7_couldBe_90 worths (nI hn) fo fa fb fm (f_X7_couldBe_6 worths (nI hn) fo fa fb fm n) (nI i) (nI t) (nI v) (nI k) = f_X7_couldBe_6 worths (nI hn) fo fa fb fm n (nI i) (nI t) (nI v) (nI 1) (nI (k + 1)) := by
    show f_X7_couldBe_6 worths (nI hn) fo fa fb fm n (nI i) (nI t) (nI v) 1 (nI k + 1) = _
    rw [nI_1]; rfl
  have goF : f_X7_couldBe_94 worths (nI hn) fo fa fb fm (f_X7_couldBe_6 worths (nI hn) fo fa fb fm n) (nI i) (nI t) (nI v) (nI k) = f_X7_couldBe_6 worths (nI hn) fo fa fb fm n (nI i) (nI t) (nI v) (nI 0) (nI (k + 1)) := by
    show f_X7_couldBe_6 worths (nI hn) fo fa fb fm n (nI i) (nI t) (nI v) 0 (nI k + 1) = _
    rw [nI_1]; rfl
  have t51 : ∀ mr : Bool, mr = decide (wf W i t v (b k) < wf W i t v (a k)) → f_X7_couldBe_51 worths (nI hn) fo fa fb fm (f_X7_couldBe_6 worths (nI hn) fo fa fb fm n) (nI i) (nI t) (nI v) (nI (bn c)) (nI k) (nI (bn mr)) = f_X7_couldBe_6 worths (nI hn) fo fa fb fm n (nI i) (nI t) (nI v) (nI (bn (c && ck W o a b m i t v k))) (nI (k + 1)) := by
    intro mr hmr
    cases c with
    | false =>
      rw [Bool.false_and]
      exact (if_pos rfl).trans goF
    | true =>
      rw [Bool.true_and]
      refine (if_neg (by decide)).trans ?_
      refine (bok (rd_ok (i := k))).trans ?_
      rw [e1]
      unfold ck
      rw [← hmr]
      by_cases co : o k = i
      · refine (if_pos (by rw [co])).trans ?_
        have hoi : (!(o k == i)) = false := by rw [co]; simp
        rw [hoi, Bool.false_or]
        refine (bok (rd_ok (i := k))).trans ?_
        rw [e7]
        rcases (show m k = 0 ∨ m k = 1 by omega) with em | em
        · rw [em]
          refine (if_neg (by decide)).trans ?_
          cases mr with
          | true => exact (if_neg (by decide)).trans goF
          | false => exact (if_pos rfl).trans goT
        · rw [em]
          refine (if_pos rfl).trans ?_
          cases mr with
          | true => exact (if_pos rfl).trans goT
          | false => exact (if_neg (by decide)).trans goF
      · refine (if_neg (sne (a := o k) (b := i))).trans ?_
        have hoi : (!(o k == i)) = true := by
          rw [beq_eq_false_iff_ne.mpr co]; rfl
        rw [hoi, Bool.true_or]
        exact goT
  refine (if_neg (snle (a := hn) (b := k))).trans ?_
  refine (bok (rd_ok (i := k))).trans ?_
  rw [e3]
  refine (bok (worthIf_ok hW (by omega) e4 ht)).trans ?_
  refine (bok (rd_ok (i := k))).trans ?_
  rw [e5]
  refine (bok (worthIf_ok hW (by omega) e6 ht)).trans ?_
  by_cases cw : wf W i t v (b k) < wf W i t v (a k)
  · refine (if_neg (snle (a := wf W i t v (a k)) (b := wf W i t v (b k)))).trans ?_
    exact t51 true (decide_eq_true cw).symm
  · refine (if_pos (sle (a := wf W i t v (a k)) (b := wf W i t v (b k)))).trans ?_
    exact t51 false (decide_eq_false cw).symm
theorem could_loop {W : Nat → Nat} {o a b m : Nat → Nat} {h hn : Nat} {worths fo fa fb fm : Nat → Int32} (hW : okW W worths) (hH : okH h hn o a b m fo fa fb fm) (hh : h ≤ 4) (hn6 : hn ≤ 6) {i t v : Nat} (hi : i < h) (ht : t < 4) (hv : v ≤ 9) :
    ∀ (d n k : Nat), d = hn - k → k ≤ hn → d < n → f_X7_couldBe_6 worths (nI hn) fo fa fb fm n (nI i) (nI t) (nI v) (nI (bn (alB W o a b m i t v k))) (nI k) = some (if alB W o a b m i t v hn = true then 1 else 0) := by
  intro d
  induction d with
  | zero =>
    intro n k hd hk hn'
    have h4 : k = hn := by omega
    subst h4
    obtain ⟨n, rfl⟩ : ∃ m, n = m + 1 := ⟨n - 1, by omega⟩
    refine (if_pos (sle (a := k) (b := k))).trans ?_
    cases alB W o a b m i t v k <;> rfl
  | succ d ih =>
    intro n k hd hk hn'
    obtain ⟨n, rfl⟩ : ∃ m, n = m + 1 := ⟨n - 1, by omega⟩
    rw [could_step hW hH hh hn6 hi ht hv (by omega)]
    exact ih n (k + 1) (by omega) (by omega) (by omega)
theorem could_ok {W : Nat → Nat} {o a b m : Nat → Nat} {h hn : Nat} {worths fo fa fb fm : Nat → Int32} (hW : okW W worths) (hH : okH h hn o a b m fo fa fb fm) (hh : h ≤ 4) (hn6 : hn ≤ 6) {i t v : Nat} (hi : i < h) (ht : t < 4) (hv : v ≤ 9) : f_X7_couldBe worths (nI hn) fo fa fb fm (nI i) (nI t) (nI v) = some (if alB W o a b m i t v hn = true then 1 else 0) :=
  could_loop hW hH hh hn6 hi ht hv hn 300 0 (by omega) (by omega) (by omega)
/-! ===== truths ===== -/
def tb (W : Nat → Nat) (o a b m : Nat → Nat) (hn i t : Nat) : Nat → Nat
  | 0 => 0
  | v + 1 => if alB W o a b m i t v hn = true then tb W o a b m hn i t v ||| 2 ^ v else tb W o a b m hn i t v
theorem tb_lt {W : Nat → Nat} {o a b m : Nat → Nat} {hn i t : Nat} : ∀ v, v ≤ 10 → tb W o a b m hn i t v < 1024 := by
  intro v
  induction v with
  | zero => intro _; show 0 < 1024; decide
  | succ v ih =>
    intro hv
    show (if alB W o a b m i t v hn = true then tb W o a b m hn i t v ||| 2 ^ v else tb W o a b m hn i t v) < 1024
    split
    · exact Nat.or_lt_two_pow (n := 10) (ih (by omega)) (Nat.pow_lt_pow_right (by decide) (by omega))
    · exact ih (by omega)
theorem truths_loop {W : Nat → Nat} {o a b m : Nat → Nat} {h hn : Nat} {worths fo fa fb fm : Nat → Int32} (hW : okW W worths) (hH : okH h hn o a b m fo fa fb fm) (hh : h ≤ 4) (hn6 : hn ≤ 6) {i t : Nat} (hi : i < h) (ht : t < 4) (hI : Int32) :
    ∀ (d n v : Nat), d = 10 - v → v ≤ 10 → d < n → f_X6_truths_26 worths fo fa fb fm (nI hn) hI n (nI i) (nI t) (nI (tb W o a b m hn i t v)) (nI v) = some (nI (tb W o a b m hn i t 10)) := by
  intro d
  induction d with
  | zero =>
    intro n v hd hv hn'
    have h4 : v = 10 := by omega
    subst h4
    obtain ⟨n, rfl⟩ : ∃ m, n = m + 1 := ⟨n - 1, by omega⟩
    exact if_pos (slt (a := 9) (b := 10))
  | succ d ih =>
    intro n v hd hv hn'
    obtain ⟨n, rfl⟩ : ∃ m, n = m + 1 := ⟨n - 1, by omega⟩
    have hr := ih n (v + 1) (by omega) (by omega) (by omega)
    rw [show tb W o a b m hn i t (v + 1) = if alB W o a b m i t v hn = true then tb W o a b m hn i t v ||| 2 ^ v else tb W o a b m hn i t v from rfl] at hr
    refine (if_neg (snlt (a := 9) (b := v))).trans ?_
    refine (bok (would_ok hW hH hh hn6 hi ht (by omega))).trans ?_
    rw [nI_1]
    by_cases c : alB W o a b m i t v hn = true
    · rw [if_pos c] at hr ⊢
      refine (if_neg (by decide)).trans ?_
      rw [shl_tab v (by omega), fa_or]
      exact hr
    · rw [if_neg c] at hr ⊢
      exact (if_pos rfl).trans hr
theorem mtruths_loop {W : Nat → Nat} {o a b m : Nat → Nat} {h hn : Nat} {worths fo fa fb fm : Nat → Int32} (hW : okW W worths) (hH : okH h hn o a b m fo fa fb fm) (hh : h ≤ 4) (hn6 : hn ≤ 6) {i t : Nat} (hi : i < h) (ht : t < 4) :
    ∀ (d n v : Nat), d = 10 - v → v ≤ 10 → d < n → f_X7_truthsNow_5 worths (nI hn) fo fa fb fm n (nI i) (nI t) (nI (tb W o a b m hn i t v)) (nI v) = some (nI (tb W o a b m hn i t 10)) := by
  intro d
  induction d with
  | zero =>
    intro n v hd hv hn'
    have h4 : v = 10 := by omega
    subst h4
    obtain ⟨n, rfl⟩ : ∃ m, n = m + 1 := ⟨n - 1, by omega⟩
    exact if_pos (slt (a := 9) (b := 10))
  | succ d ih =>
    intro n v hd hv hn'
    obtain ⟨n, rfl⟩ : ∃ m, n = m + 1 := ⟨n - 1, by omega⟩
    have hr := ih n (v + 1) (by omega) (by omega) (by omega)
    rw [show tb W o a b m hn i t (v + 1) = if alB W o a b m i t v hn = true then tb W o a b m hn i t v ||| 2 ^ v else tb W o a b m hn i t v from rfl] at hr
    refine (if_neg (snlt (a := 9) (b := v))).trans ?_
    refine (bok (could_ok hW hH hh hn6 hi ht (by omega))).trans ?_
    by_cases c : alB W o a b m i t v hn = true
    · rw [if_pos c] at hr ⊢
      refine (if_neg (by decide)).trans ?_
      show f_X7_truthsNow_5 worths (nI hn) fo fa fb fm n (nI i) (nI t) (nI (tb W o a b m hn i t v) ||| ((1 : Int32) <<< (nI v &&& 31))) (nI v + 1) = _
      rw [shl_tab v (by omega), fa_or, nI_1]
      exact hr
    · rw [if_neg c] at hr ⊢
      refine (if_pos rfl).trans ?_
      show f_X7_truthsNow_5 worths (nI hn) fo fa fb fm n (nI i) (nI t) (nI (tb W o a b m hn i t v) ||| nI 0) (nI v + 1) = _
      rw [fa_or, Nat.or_zero, nI_1]
      exact hr
theorem truthsNow_ok {W : Nat → Nat} {o a b m : Nat → Nat} {h hn : Nat} {worths fo fa fb fm : Nat → Int32} (hW : okW W worths) (hH : okH h hn o a b m fo fa fb fm) (hh : h ≤ 4) (hn6 : hn ≤ 6) {i t : Nat} (hi : i < h) (ht : t < 4) : f_X7_truthsNow worths (nI hn) fo fa fb fm (nI i) (nI t) = some (nI (tb W o a b m hn i t 10)) :=
  mtruths_loop hW hH hh hn6 hi ht 10 300 0 (by omega) (by omega) (by omega)
/-! ===== what to ask ===== -/
def lw2 (bs w : Nat) : Nat := if mr bs w 10 < nt bs w 10 then nt bs w 10 else mr bs w 10
theorem pc_le (b : Nat) : ∀ v, pc b v ≤ v := by
  intro v
  induction v with
  | zero => exact Nat.le_refl 0
  | succ v ih =>
    show pc b v + (if b.testBit v = true then 1 else 0) ≤ v + 1
    split <;> omega
theorem mn_le {bs w : Nat} (hb : bs < 1024) (hw : w < 10) : mr bs w 10 + nt bs w 10 ≤ 10 := by
  rw [(cnt_tab w hw bs hb).2]
  exact pc_le bs 10
theorem left_ok {bs w : Nat} (hb : bs < 1024) (hw : w < 10) : f_X6_leftAtWorst (nI bs) (nI w) = some (nI (lw2 bs w)) := by
  have hdiv : bs / 2 ^ (w + 1) < 1024 := Nat.lt_of_le_of_lt (Nat.div_le_self _ _) hb
  obtain ⟨c1, c2⟩ := cnt_tab w hw bs hb
  have hle := mn_le hb hw
  unfold f_X6_leftAtWorst
  rw [shr_tab w hw bs hb]
  refine (bok (bc_tab _ hdiv)).trans ?_
  refine (bok (bc_tab _ hb)).trans ?_
  rw [c1, ← c2, pk_sub (a := mr bs w 10 + nt bs w 10) (b := mr bs w 10) (by omega), show mr bs w 10 + nt bs w 10 - mr bs w 10 = nt bs w 10 by omega]
  unfold lw2
  by_cases q : mr bs w 10 < nt bs w 10
  · rw [if_pos q, if_pos (slt (a := mr bs w 10) (b := nt bs w 10))]
  · rw [if_neg q, if_neg (snlt (a := mr bs w 10) (b := nt bs w 10))]
theorem lw2_le {bs w : Nat} (hb : bs < 1024) (hw : w < 10) : lw2 bs w ≤ 10 := by
  have := mn_le hb hw
  unfold lw2
  split <;> omega
/-- the best to ask so far: with how many left, and which -/
def akS (W : Nat → Nat) (bs i t : Nat) : Nat → Option (Nat × Nat)
  | 0 => none
  | s + 1 => if s ≠ t ∧ lw2 bs (W (4 * i + s)) < (match akS W bs i t s with | none => 11 | some p => p.2) then some (s, lw2 bs (W (4 * i + s))) else akS W bs i t s
def akN (s : Option (Nat × Nat)) : Nat := match s with | none => 11 | some p => p.2
def akB (s : Option (Nat × Nat)) : Int32 := match s with | none => -1 | some p => nI p.1
def akM (s : Option (Nat × Nat)) : Int32 := match s with | none => 268435456 | some p => nI p.2
theorem akS_succ (W : Nat → Nat) (bs i t s : Nat) : akS W bs i t (s + 1) = if s ≠ t ∧ lw2 bs (W (4 * i + s)) < akN (akS W bs i t s) then some (s, lw2 bs (W (4 * i + s))) else akS W bs i t s := rfl
theorem akN_le {W : Nat → Nat} {worths : Nat → Int32} (hW : okW W worths) {bs i t : Nat} (hb : bs < 1024) (hi : i < 4) : ∀ s, s ≤ 4 → (akN (akS W bs i t s) ≤ 11 ∧ ∀ p, akS W bs i t s = some p → p.2 ≤ 10) := by
  intro s
  induction s with
  | zero => intro _; exact ⟨Nat.le_refl _, fun p e => by cases e⟩
  | succ s ih =>
    intro hs
    have hl := lw2_le hb (show W (4 * i + s) < 10 by have := (hW (4 * i + s) (by omega)).2; omega)
    rw [akS_succ]
    by_cases q : s ≠ t ∧ lw2 bs (W (4 * i + s)) < akN (akS W bs i t s)
    · rw [if_pos q]
      exact ⟨by show lw2 bs (W (4 * i + s)) ≤ 11; omega, fun p e => by cases e; exact hl⟩
    · rw [if_neg q]
      exact ih (by omega)
theorem ask_loop {W : Nat → Nat} {worths fo fa fb fm : Nat → Int32} (hW : okW W worths) {bs i t : Nat} (hb : bs < 1024) (hi : i < 4) (ht : t < 4) (hI hN : Int32) :
    ∀ (d n s : Nat), d = 4 - s → s ≤ 4 → d < n → f_X6_ask_44 worths fo fa fb fm hN hI n (nI i) (nI t) (nI bs) (akB (akS W bs i t s)) (nI (akN (akS W bs i t s))) (nI s) = some (akB (akS W bs i t 4)) := by
  intro d
  induction d with
  | zero =>
    intro n s hd hs hn'
    have h4 : s = 4 := by omega
    subst h4
    obtain ⟨n, rfl⟩ : ∃ m, n = m + 1 := ⟨n - 1, by omega⟩
    exact if_pos (sle (a := 4) (b := 4))
  | succ d ih =>
    intro n s hd hs hn'
    obtain ⟨n, rfl⟩ : ∃ m, n = m + 1 := ⟨n - 1, by omega⟩
    have hr := ih n (s + 1) (by omega) (by omega) (by omega)
    rw [akS_succ] at hr
    have hw := hW (4 * i + s) (by omega)
    have hl := lw2_le hb (show W (4 * i + s) < 10 by have := hw.2; omega)
    have hN := (akN_le hW hb hi (t := t) s (by omega)).1
    refine (if_neg (snle (a := 4) (b := s))).trans ?_
    refine (bok (at_ok (i := i) (t := s))).trans ?_
    rw [hw.1]
    refine (bok (left_ok hb (show W (4 * i + s) < 10 by have := hw.2; omega))).trans ?_
    rw [nI_1]
    by_cases c : s = t
    · rw [if_neg (fun q => q.1 c)] at hr
      exact (if_pos (by rw [c])).trans hr
    · refine (if_neg (sne (a := s) (b := t))).trans ?_
      by_cases q : lw2 bs (W (4 * i + s)) < akN (akS W bs i t s)
      · rw [if_pos ⟨c, q⟩] at hr
        exact (if_neg (snle (a := akN (akS W bs i t s)) (b := lw2 bs (W (4 * i + s))))).trans hr
      · rw [if_neg (fun z => q z.2)] at hr
        exact (if_pos (sle (a := akN (akS W bs i t s)) (b := lw2 bs (W (4 * i + s))))).trans hr
theorem isIn2_ok {g t : Nat} (hg : g < 1024) (ht : t < 10) : f_X7_isIn (nI g) (nI t) = some (if g.testBit t = true then 1 else 0) := by
  unfold f_X7_isIn
  rw [bit2_tab t ht g hg]
  cases g.testBit t <;> rfl
theorem mask_in {W : Nat → Nat} {worths fo fa fb fm : Nat → Int32} (hW : okW W worths) {bs i t s : Nat} (hb : bs < 1024) (hi : i < 4) (ht : t < 4) (hs : s < 4) (hN x4 x5 : Int32) (back : Int32 → Int32 → Int32 → Int32 → Int32 → Int32 → Option Int32) :
    ∀ (d n v : Nat), d = 10 - v → v ≤ 10 → d < n → f_X7_askNow_36 worths hN fo fa fb fm back n (nI i) (nI t) (nI bs) x4 x5 (nI s) (nI (mr bs (W (4 * i + s)) v)) (nI (nt bs (W (4 * i + s)) v)) (nI v) = f_X7_askNow_145 worths hN fo fa fb fm back (nI i) (nI t) (nI bs) x4 x5 (nI s) (if s = t then 268435456 else nI (lw2 bs (W (4 * i + s)))) := by
  have hw := hW (4 * i + s) (by omega)
  have hmn := mn_le hb (show W (4 * i + s) < 10 by have := hw.2; omega)
  intro d
  induction d with
  | zero =>
    intro n v hd hv hn'
    have h4 : v = 10 := by omega
    subst h4
    obtain ⟨n, rfl⟩ : ∃ m, n = m + 1 := ⟨n - 1, by omega⟩
    refine (if_pos (slt (a := 9) (b := 10))).trans ?_
    by_cases c : s = t
    · rw [if_pos c]
      exact if_pos (by rw [c])
    · rw [if_neg c]
      refine (if_neg (sne (a := s) (b := t))).trans ?_
      unfold lw2
      by_cases q : mr bs (W (4 * i + s)) 10 < nt bs (W (4 * i + s)) 10
      · rw [if_pos q]
        exact if_pos (sle (a := mr bs (W (4 * i + s)) 10) (b := nt bs (W (4 * i + s)) 10))
      · rw [if_neg q]
        by_cases e : mr bs (W (4 * i + s)) 10 = nt bs (W (4 * i + s)) 10
        · rw [e]
          exact if_pos (sle (a := nt bs (W (4 * i + s)) 10) (b := nt bs (W (4 * i + s)) 10))
        · exact if_neg (snle (a := mr bs (W (4 * i + s)) 10) (b := nt bs (W (4 * i + s)) 10))
  | succ d ih =>
    intro n v hd hv hn'
    obtain ⟨n, rfl⟩ : ∃ m, n = m + 1 := ⟨n - 1, by omega⟩
    have hr := ih n (v + 1) (by omega) (by omega) (by omega)
    rw [show mr bs (W (4 * i + s)) (v + 1) = mr bs (W (4 * i + s)) v + (if bs.testBit v = true ∧ W (4 * i + s) < v then 1 else 0) from rfl, show nt bs (W (4 * i + s)) (v + 1) = nt bs (W (4 * i + s)) v + (if bs.testBit v = true ∧ ¬ W (4 * i + s) < v then 1 else 0) from rfl] at hr
    refine (if_neg (snlt (a := 9) (b := v))).trans ?_
    rw [t4n]
    refine (bok (rd_ok (i := 4 * i + s))).trans ?_
    rw [hw.1]
    -- more, then not, for a bit
    have tail87 : ∀ (k1 : Nat) (x10 : Int32), (x10 = 1 ∧ W (4 * i + s) < v) ∨ (x10 = 0 ∧ ¬ W (4 * i + s) < v) → k1 = (if bs.testBit v = true ∧ W (4 * i + s) < v then 1 else 0) → f_X7_askNow_87 worths hN fo fa fb fm back (f_X7_askNow_36 worths hN fo fa fb fm back n) (nI i) (nI t) (nI bs) x4 x5 (nI s) (nI (nt bs (W (4 * i + s)) v)) (nI v) x10 (nI k1) (nI (mr bs (W (4 * i + s)) v)) = f_X7_askNow_145 worths hN fo fa fb fm back (nI i) (nI t) (nI bs) x4 x5 (nI s) (if s = t then 268435456 else nI (lw2 bs (W (4 * i + s)))) := by
      intro k1 x10 hx ek
      rw [← ek] at hr
      refine (bok (isIn2_ok hb (show v < 10 by omega))).trans ?_
      by_cases cb : bs.testBit v = true
      · rw [if_pos cb]
        refine (if_neg (by decide)).trans ?_
        rcases hx with ⟨rfl, cv⟩ | ⟨rfl, cv⟩
        · rw [if_neg (fun z => z.2 cv)] at hr
          refine (if_neg (by decide)).trans ?_
          show f_X7_askNow_36 worths hN fo fa fb fm back n (nI i) (nI t) (nI bs) x4 x5 (nI s) (nI (mr bs (W (4 * i + s)) v) + nI k1) (nI (nt bs (W (4 * i + s)) v) + nI 0) (nI v + 1) = _
          rw [nI_add, nI_add, nI_1]
          exact hr
        · rw [if_pos ⟨cb, cv⟩] at hr
          refine (if_pos rfl).trans ?_
          show f_X7_askNow_36 worths hN fo fa fb fm back n (nI i) (nI t) (nI bs) x4 x5 (nI s) (nI (mr bs (W (4 * i + s)) v) + nI k1) (nI (nt bs (W (4 * i + s)) v) + nI 1) (nI v + 1) = _
          rw [nI_add, nI_add, nI_1]
          exact hr
      · rw [if_neg cb]
        rw [if_neg (fun z => cb z.1)] at hr
        refine (if_pos rfl).trans ?_
        show f_X7_askNow_36 worths hN fo fa fb fm back n (nI i) (nI t) (nI bs) x4 x5 (nI s) (nI (mr bs (W (4 * i + s)) v) + nI k1) (nI (nt bs (W (4 * i + s)) v) + nI 0) (nI v + 1) = _
        rw [nI_add, nI_add, nI_1]
        exact hr
    have tail64 : ∀ k0 : Int32, (k0 = 1 ∧ W (4 * i + s) < v) ∨ (k0 = 0 ∧ ¬ W (4 * i + s) < v) → f_X7_askNow_64 worths hN fo fa fb fm back (f_X7_askNow_36 worths hN fo fa fb fm back n) (nI i) (nI t) (nI bs) x4 x5 (nI s) (nI (mr bs (W (4 * i + s)) v)) (nI (nt bs (W (4 * i + s)) v)) (nI v) k0 = f_X7_askNow_145 worths hN fo fa fb fm back (nI i) (nI t) (nI bs) x4 x5 (nI s) (if s = t then 268435456 else nI (lw2 bs (W (4 * i + s)))) := by
      intro k0 hk
      refine (bok (isIn2_ok hb (show v < 10 by omega))).trans ?_
      by_cases cb : bs.testBit v = true
      · rw [if_pos cb]
        refine (if_neg (by decide)).trans ?_
        rcases hk with ⟨rfl, cv⟩ | ⟨rfl, cv⟩
        · refine (if_neg (by decide)).trans ?_
          exact tail87 1 1 (Or.inl ⟨rfl, cv⟩) (by rw [if_pos ⟨cb, cv⟩])
        · refine (if_pos rfl).trans ?_
          exact tail87 0 0 (Or.inr ⟨rfl, cv⟩) (by rw [if_neg (fun z => cv z.2)])
      · rw [if_neg cb]
        refine (if_pos rfl).trans ?_
        exact tail87 0 k0 hk (by rw [if_neg (fun z => cb z.1)])
    by_cases cv : W (4 * i + s) < v
    · exact (if_neg (snle (a := v) (b := W (4 * i + s)))).trans (tail64 1 (Or.inl ⟨rfl, cv⟩))
    · exact (if_pos (sle (a := v) (b := W (4 * i + s)) (by omega) (by have := hw.2; omega))).trans (tail64 0 (Or.inr ⟨rfl, cv⟩))
theorem mask_loop {W : Nat → Nat} {worths fo fa fb fm : Nat → Int32} (hW : okW W worths) {bs i t : Nat} (hb : bs < 1024) (hb0 : bs ≠ 0) (hi : i < 4) (ht : t < 4) (hN : Int32) :
    ∀ (d n s : Nat), d = 4 - s → s ≤ 4 → d < n → f_X7_askNow_17 worths hN fo fa fb fm n (nI i) (nI t) (nI bs) (akB (akS W bs i t s)) (akM (akS W bs i t s)) (nI s) = some (akB (akS W bs i t 4)) := by
  intro d
  induction d with
  | zero =>
    intro n s hd hs hn'
    have h4 : s = 4 := by omega
    subst h4
    obtain ⟨n, rfl⟩ : ∃ m, n = m + 1 := ⟨n - 1, by omega⟩
    exact if_pos (sle (a := 4) (b := 4))
  | succ d ih =>
    intro n s hd hs hn'
    obtain ⟨n, rfl⟩ : ∃ m, n = m + 1 := ⟨n - 1, by omega⟩
    have hr := ih n (s + 1) (by omega) (by omega) (by omega)
    rw [akS_succ] at hr
    have hw := hW (4 * i + s) (by omega)
    have hl := lw2_le hb (show W (4 * i + s) < 10 by have := hw.2; omega)
    have hA := (akN_le hW hb hi (t := t) s (by omega))
    refine (if_neg (snle (a := 4) (b := s))).trans ?_
    refine (if_neg (sne (a := bs) (b := 0))).trans ?_
    refine (mask_in hW hb hi ht (by omega) hN _ _ _ 10 300 0 (by omega) (by omega) (by omega)).trans ?_
    -- with what is left by this one
    have key : ∀ x9 : Int32, (akM (akS W bs i t s) ≤ x9 ∧ f_X7_askNow_17 worths hN fo fa fb fm n (nI i) (nI t) (nI bs) (akB (akS W bs i t s)) (akM (akS W bs i t s)) (nI (s + 1)) = some (akB (akS W bs i t 4))) ∨ (¬ akM (akS W bs i t s) ≤ x9 ∧ f_X7_askNow_17 worths hN fo fa fb fm n (nI i) (nI t) (nI bs) (nI s) x9 (nI (s + 1)) = some (akB (akS W bs i t 4))) → f_X7_askNow_145 worths hN fo fa fb fm (f_X7_askNow_17 worths hN fo fa fb fm n) (nI i) (nI t) (nI bs) (akB (akS W bs i t s)) (akM (akS W bs i t s)) (nI s) x9 = some (akB (akS W bs i t 4)) := by
      intro x9 hk
      rcases hk with ⟨k1, k2⟩ | ⟨k1, k2⟩
      · refine (if_pos k1).trans ?_
        refine (if_pos k1).trans ?_
        show f_X7_askNow_17 worths hN fo fa fb fm n (nI i) (nI t) (nI bs) (akB (akS W bs i t s)) (akM (akS W bs i t s)) (nI s + 1) = _
        rw [nI_1]; exact k2
      · refine (if_neg k1).trans ?_
        refine (if_neg k1).trans ?_
        show f_X7_askNow_17 worths hN fo fa fb fm n (nI i) (nI t) (nI bs) (nI s) x9 (nI s + 1) = _
        rw [nI_1]; exact k2
    refine key _ ?_
    by_cases c : s = t
    · rw [if_pos c]
      rw [if_neg (fun q => q.1 c)] at hr
      refine Or.inl ⟨?_, hr⟩
      cases hw2 : akS W bs i t s with
      | none => exact sle (a := 268435456) (b := 268435456)
      | some p =>
        have := hA.2 p hw2
        exact sle (a := p.2) (b := 268435456)
    · rw [if_neg c]
      by_cases q : lw2 bs (W (4 * i + s)) < akN (akS W bs i t s)
      · rw [if_pos ⟨c, q⟩] at hr
        refine Or.inr ⟨?_, hr⟩
        cases hw2 : akS W bs i t s with
        | none => exact snle (a := 268435456) (b := lw2 bs (W (4 * i + s)))
        | some p =>
          rw [hw2] at q
          have := hA.2 p hw2
          exact snle (a := p.2) (b := lw2 bs (W (4 * i + s))) q (by omega)
      · rw [if_neg (fun z => q z.2)] at hr
        refine Or.inl ⟨?_, hr⟩
        cases hw2 : akS W bs i t s with
        | none => rw [hw2] at q; exact absurd (show lw2 bs (W (4 * i + s)) < 11 by omega) q
        | some p =>
          rw [hw2] at q
          exact sle (a := p.2) (b := lw2 bs (W (4 * i + s))) (Nat.not_lt.mp q) (by omega)
/-- truths and ask on both sides, of an heir and a thing -/
theorem ctruths_ok {W : Nat → Nat} {o a b m : Nat → Nat} {h hn : Nat} {worths fo fa fb fm : Nat → Int32} (hW : okW W worths) (hH : okH h hn o a b m fo fa fb fm) (hh : h ≤ 4) (hn6 : hn ≤ 6) {i t : Nat} (hi : i < h) (ht : t < 4) : f_X6_truths worths fo fa fb fm (nI hn) (nI h) (nI i) (nI t) = some (nI (tb W o a b m hn i t 10)) := by
  rcases heir_cases (nI i) hh with ⟨j, hj, e, k1, k2⟩ | ⟨k1, k2⟩
  · refine (bok k1).trans ?_
    refine (if_neg (by decide)).trans ?_
    rcases thing_cases (nI t) hh (by omega) with ⟨s, hs, e2, t1, t2⟩ | ⟨t1, t2⟩
    · refine (bok t1).trans ?_
      refine (if_neg (by decide)).trans ?_
      exact truths_loop hW hH hh hn6 hi ht (nI h) 10 300 0 (by omega) (by omega) (by omega)
    · have : f_X6_isThing (nI t) = some 1 := (if_neg (snlt (a := t) (b := 0))).trans (if_neg (snle (a := 4) (b := t)))
      rw [t1] at this
      exact absurd (Option.some.inj this) (by decide)
  · have : f_X1_knows (nI h) (nI i) = some 1 := (if_neg (snlt (a := i) (b := 0))).trans (if_neg (snle (a := h) (b := i)))
    rw [k1] at this
    exact absurd (Option.some.inj this) (by decide)
theorem ask_eq {W : Nat → Nat} {o a b m : Nat → Nat} {h hn : Nat} {worths fo fa fb fm mw go ga gb gm : Nat → Int32} (hW : okW W worths) (hH : okH h hn o a b m fo fa fb fm) (hW2 : okW W mw) (hH2 : okH h hn o a b m go ga gb gm) (hh : h ≤ 4) (hn6 : hn ≤ 6) {i t : Nat} (hi : i < h) (ht : t < 4) : ∃ r, f_X6_ask worths fo fa fb fm (nI hn) (nI h) (nI i) (nI t) = some r ∧ f_X7_askNow mw (nI hn) go ga gb gm (nI i) (nI t) = some r := by
  have hb := tb_lt (W := W) (o := o) (a := a) (b := b) (m := m) (hn := hn) (i := i) (t := t) 10 (by omega)
  have k1 : f_X1_knows (nI h) (nI i) = some 1 := (if_neg (snlt (a := i) (b := 0))).trans (if_neg (snle (a := h) (b := i)))
  have t1 : f_X6_isThing (nI t) = some 1 := (if_neg (snlt (a := t) (b := 0))).trans (if_neg (snle (a := 4) (b := t)))
  by_cases q : tb W o a b m hn i t 10 = 0
  · refine ⟨-1, ?_, ?_⟩
    · refine (bok k1).trans ?_
      refine (if_neg (by decide)).trans ?_
      refine (bok t1).trans ?_
      refine (if_neg (by decide)).trans ?_
      refine (bok (ctruths_ok hW hH hh hn6 hi ht)).trans ?_
      rw [q]
      exact if_pos rfl
    · refine (bok (truthsNow_ok hW2 hH2 hh hn6 hi ht)).trans ?_
      rw [q]
      refine (if_neg (by decide)).trans ?_
      exact if_pos rfl
  · refine ⟨akB (akS W (tb W o a b m hn i t 10) i t 4), ?_, ?_⟩
    · refine (bok k1).trans ?_
      refine (if_neg (by decide)).trans ?_
      refine (bok t1).trans ?_
      refine (if_neg (by decide)).trans ?_
      refine (bok (ctruths_ok hW hH hh hn6 hi ht)).trans ?_
      refine (if_neg (sne (a := tb W o a b m hn i t 10) (b := 0))).trans ?_
      exact ask_loop hW hb (by omega) ht (nI h) (nI hn) 4 300 0 (by omega) (by omega) (by omega)
    · refine (bok (truthsNow_ok hW2 hH2 hh hn6 hi ht)).trans ?_
      exact mask_loop hW2 hb q (by omega) ht (nI hn) 4 300 0 (by omega) (by omega) (by omega)
