/-! ===== the page: letters, the first fault, a will ===== -/
def okP (n : Nat) (P : Nat → Nat) (f : Nat → Int32) : Prop := ∀ j, j < n → f j = nI (P j) ∧ 32 ≤ P j ∧ P j ≤ 126
def gB (k c : Nat) : Nat := if k < 23 then (if k % 6 = 0 then (if c = 97 ∨ c = 104 ∨ c = 108 ∨ c = 112 ∨ c = 115 then 1 else 0) else if k % 6 = 5 then (if c = 44 then 1 else 0) else (if 48 ≤ c ∧ c ≤ 57 then 1 else 0)) else 0
def kc (c : Nat) : Nat := if c = 97 then 4 else if c = 104 then 0 else if c = 108 then 3 else if c = 112 then 2 else 1
theorem gB_le (k c : Nat) : gB k c ≤ 1 := by
  unfold gB
  repeat' split
  all_goals omega
theorem kc_lt (c : Nat) : kc c < 5 := by
  unfold kc
  repeat' split
  all_goals omega
def gMod (x1 v1 : Int32) : Option Int32 := (if x1 < 23 then (if (x1 - x1 / 6 * 6) = 0 then (f_X7_kindBy v1).bind (fun v9 => (if v9 = (-1) then some 0 else some 1)) else (if (x1 - x1 / 6 * 6) = 5 then (if v1 = 44 then some 1 else some 0) else (f_X7_within (v1 - 48) 0 9).bind (fun v5 => (bz v5).bind (fun b7 => some b7)))) else some 0)
set_option maxRecDepth 100000 in
theorem fits_tab : ∀ k, k < 25 → ∀ c, c < 127 → f_X2_fits (nI k) (nI c) = some (nI (gB k c)) := by decide +kernel
set_option maxRecDepth 100000 in
theorem good_tab : ∀ k, k < 25 → ∀ c, c < 127 → gMod (nI k) (nI c) = some (nI (gB k c)) := by decide +kernel
set_option maxRecDepth 100000 in
theorem byte_tab : ∀ c, c < 127 → vp_nar .byte (nI c).toInt8.toInt32 = nI c := by decide +kernel
set_option maxRecDepth 100000 in
theorem called_tab : ∀ c, c < 127 → gB 0 c = 1 → f_X2_kindCalled (nI c) = some (nI (kc c)) ∧ f_X7_kindBy (nI c) = some (nI (kc c)) := by decide +kernel
set_option maxRecDepth 100000 in
theorem six_tab : ∀ n, n < 26 → ((nI n + 1) - (nI n + 1) / 6 * 6) = nI ((n + 1) % 6) ∧ (nI n + 1) / 6 = nI ((n + 1) / 6) ∧ (nI n - nI n / 6 * 6) = nI (n % 6) := by decide +kernel
theorem letter_eq {n : Nat} {P : Nat → Nat} {codes pg : Nat → Int32} (hn : n ≤ 25) (h1 : okP n P codes) (h2 : okP n P pg) (x1 : Int32) : ∃ r n' P' g g', n' ≤ 25 ∧ okP n' P' g ∧ okP n' P' g' ∧ f_X6_letter codes (nI n) x1 = some (r, g, nI n') ∧ f_X7_letter (nI n) pg x1 = some (r, nI n', g') := by
  rcases within_cases x1 32 95 (by omega) (by omega) with ⟨t, ht, e, w⟩ | ⟨_, c, w⟩
  · subst e
    by_cases c : n = 25
    · subst c
      refine ⟨-104, 25, P, codes, pg, hn, h1, h2, ?_, ?_⟩
      · refine (if_neg (snlt (a := 32 + t) (b := 32))).trans ?_
        refine (if_pos (sle (a := 32 + t) (b := 126))).trans ?_
        exact if_neg (snlt (a := 25) (b := 25))
      · exact (bok w).trans ((if_neg (by decide)).trans (if_pos rfl))
    · have hu : ∀ f : Nat → Int32, okP n P f → okP (n + 1) (upK P n (32 + t)) (upd f n (nI (32 + t))) := by
        intro f hf j hj
        unfold upK
        by_cases cj : j = n
        · subst cj
          rw [us, if_pos rfl]
          exact ⟨rfl, by omega, by omega⟩
        · rw [un cj, if_neg cj]
          exact hf j (by omega)
      refine ⟨nI (n + 1), n + 1, upK P n (32 + t), upd codes n (nI (32 + t)), upd pg n (nI (32 + t)), by omega, hu _ h1, hu _ h2, ?_, ?_⟩
      · refine (if_neg (snlt (a := 32 + t) (b := 32))).trans ?_
        refine (if_pos (sle (a := 32 + t) (b := 126))).trans ?_
        refine (if_pos (slt (a := n) (b := 25))).trans ?_
        refine (bok (show f_X2_write codes (nI n) (nI (32 + t)) = some (upd codes n (nI (32 + t)), nI (n + 1)) from ?_)).trans rfl
        refine (bok (set_ok (i := n))).trans ?_
        rw [nI_1]
      · refine (bok w).trans ((if_neg (by decide)).trans ?_)
        refine (if_neg (sne (a := n) (b := 25))).trans ?_
        rw [byte_tab (32 + t) (by omega)]
        refine (bok (wr_ok (i := n))).trans ?_
        rw [nI_1]
  · refine ⟨-102, n, P, codes, pg, hn, h1, h2, ?_, ?_⟩
    · rcases c with c | c
      · exact if_pos c
      · have q1 : ¬ x1 < 32 := fun q => by
          have a1 := Int32.lt_iff_toInt_lt.mp q
          have a2 := Int32.lt_iff_toInt_lt.mp c
          have a3 : (nI (32 + 95 - 1)).toInt = 126 := rfl
          have a4 : (32 : Int32).toInt = 32 := rfl
          omega
        have q2 : ¬ x1 ≤ 126 := fun q => by
          have a1 := Int32.le_iff_toInt_le.mp q
          have a2 := Int32.lt_iff_toInt_lt.mp c
          have a3 : (nI (32 + 95 - 1)).toInt = 126 := rfl
          have a4 : (126 : Int32).toInt = 126 := rfl
          omega
        exact (if_neg q1).trans (if_neg q2)
    · exact (bok w).trans (if_pos rfl)
theorem fault_loop {n : Nat} {P : Nat → Nat} {codes pg : Nat → Int32} (hn : n ≤ 25) (h1 : okP n P codes) (h2 : okP n P pg) :
    ∀ (d f1 f2 k : Nat), d = n - k → k ≤ n → d < f1 → d < f2 → ∃ r, r ≤ n ∧ (r = n → ∀ j, k ≤ j → j < n → gB j (P j) = 1) ∧ f_X2_firstFault_2 codes (nI n) f1 (nI k) = some (nI r) ∧ f_X7_faultNow_2 (nI n) pg f2 (nI k) = some (nI r) := by
  intro d
  induction d with
  | zero =>
    intro f1 f2 k hd hk hf1 hf2
    obtain ⟨f1, rfl⟩ : ∃ m, f1 = m + 1 := ⟨f1 - 1, by omega⟩
    obtain ⟨f2, rfl⟩ : ∃ m, f2 = m + 1 := ⟨f2 - 1, by omega⟩
    have e : k = n := by omega
    subst e
    refine ⟨k, Nat.le_refl k, fun _ j a b => absurd b (by omega), ?_, ?_⟩
    · by_cases c : 25 ≤ k
      · exact if_pos (sle (a := 25) (b := k))
      · refine (if_neg (snle (a := 25) (b := k))).trans ?_
        exact if_pos (sle (a := k) (b := k))
    · exact if_pos (sle (a := k) (b := k))
  | succ d ih =>
    intro f1 f2 k hd hk hf1 hf2
    obtain ⟨f1, rfl⟩ : ∃ m, f1 = m + 1 := ⟨f1 - 1, by omega⟩
    obtain ⟨f2, rfl⟩ : ∃ m, f2 = m + 1 := ⟨f2 - 1, by omega⟩
    obtain ⟨e1, b1, b2⟩ := h1 k (by omega)
    obtain ⟨e2, _, _⟩ := h2 k (by omega)
    have t1 : f_X2_fits (nI k) (codes k) = some (nI (gB k (P k))) := by rw [e1]; exact fits_tab k (by omega) (P k) (by omega)
    have t2 : f_X7_isGood pg (nI k) = some (nI (gB k (P k))) := by
      refine (bok (rd_ok (i := k))).trans ?_
      rw [e2]
      exact good_tab k (by omega) (P k) (by omega)
    by_cases c : gB k (P k) = 0
    · refine ⟨k, hk, fun q => absurd q (by omega), ?_, ?_⟩
      · refine (if_neg (snle (a := 25) (b := k))).trans ?_
        refine (if_neg (snle (a := n) (b := k))).trans ?_
        refine (bok (get_ok (i := k))).trans ?_
        refine (bok t1).trans ?_
        rw [c]; exact if_pos rfl
      · refine (if_neg (snle (a := n) (b := k))).trans ?_
        refine (bok t2).trans ?_
        rw [c]; exact if_pos rfl
    · have c1 : gB k (P k) = 1 := by have := gB_le k (P k); omega
      obtain ⟨r, r1, r2, r3, r4⟩ := ih f1 f2 (k + 1) (by omega) (by omega) (by omega) (by omega)
      refine ⟨r, r1, fun q j a b => ?_, ?_, ?_⟩
      · by_cases cj : j = k
        · subst cj; exact c1
        · exact r2 q j (by omega) b
      · refine (if_neg (snle (a := 25) (b := k))).trans ?_
        refine (if_neg (snle (a := n) (b := k))).trans ?_
        refine (bok (get_ok (i := k))).trans ?_
        refine (bok t1).trans ?_
        rw [c1]
        refine (if_neg (by decide)).trans ?_
        rw [nI_1]; exact r3
      · refine (if_neg (snle (a := n) (b := k))).trans ?_
        refine (bok t2).trans ?_
        rw [c1]
        refine (if_neg (by decide)).trans ?_
        rw [nI_1]; exact r4
theorem fault_eq {n : Nat} {P : Nat → Nat} {codes pg : Nat → Int32} (hn : n ≤ 25) (h1 : okP n P codes) (h2 : okP n P pg) : ∃ r, r ≤ n ∧ (r = n → ∀ j, j < n → gB j (P j) = 1) ∧ f_X2_firstFault codes (nI n) = some (nI r) ∧ f_X7_faultNow (nI n) pg = some (nI r) := by
  obtain ⟨r, r1, r2, r3, r4⟩ := fault_loop hn h1 h2 n 300 300 0 (by omega) (by omega) (by omega) (by omega)
  exact ⟨r, r1, fun q j hj => r2 q j (by omega) hj, r3, r4⟩
/-! what a will names -/
def wIn (P W : Nat → Nat) (i : Nat) : Nat → Nat → Nat
  | 0 => W
  | t + 1 => upK (wIn P W i t) (4 * i + t) (P (6 * i + 1 + t) - 48)
def wOut (P W : Nat → Nat) : Nat → Nat → Nat
  | 0 => W
  | i + 1 => wIn P (wOut P W i) i 4
def kOut (P K : Nat → Nat) : Nat → Nat → Nat
  | 0 => K
  | i + 1 => upK (kOut P K i) i (kc (P (6 * i)))
theorem okW_up {W : Nat → Nat} {f : Nat → Int32} (hW : okW W f) {j v : Nat} (hv : v ≤ 9) : okW (upK W j v) (upd f j (nI v)) := by
  intro k hk
  unfold upK
  by_cases c : k = j
  · subst c
    rw [us, if_pos rfl]
    exact ⟨rfl, hv⟩
  · rw [un c, if_neg c]
    exact hW k hk
theorem okK_nx {i k : Nat} {K : Nat → Nat} {f : Nat → Int32} (hK : okK i K f) (hk : k < 5) : okK (i + 1) (upK K i k) (upd f i (nI k)) := by
  intro j hj
  unfold upK
  by_cases c : j = i
  · subst c
    rw [us, if_pos rfl]
    exact ⟨rfl, hk⟩
  · rw [un c, if_neg c]
    exact hK j (by omega)
theorem dig_ok {n h : Nat} {P : Nat → Nat} (hg : ∀ j, j < n → gB j (P j) = 1) (hn : n = 6 * h - 1) (hh : h ≤ 4) {i t : Nat} (hi : i < h) (ht : t < 4) : 48 ≤ P (6 * i + 1 + t) ∧ P (6 * i + 1 + t) ≤ 57 := by
  have e := hg (6 * i + 1 + t) (by omega)
  unfold gB at e
  rw [if_pos (by omega), if_neg (by omega), if_neg (by omega)] at e
  by_cases c : 48 ≤ P (6 * i + 1 + t) ∧ P (6 * i + 1 + t) ≤ 57
  · exact c
  · rw [if_neg c] at e; omega
theorem kin_ok {n h : Nat} {P : Nat → Nat} {codes : Nat → Int32} (hP : okP n P codes) (hg : ∀ j, j < n → gB j (P j) = 1) (hn : n = 6 * h - 1) (hh : h ≤ 4) {i : Nat} (hi : i < h) : f_X2_kindCalled (nI (P (6 * i))) = some (nI (kc (P (6 * i)))) ∧ f_X7_kindBy (nI (P (6 * i))) = some (nI (kc (P (6 * i)))) := by
  have e := hg (6 * i) (by omega)
  have b := (hP (6 * i) (by omega)).2.2
  refine called_tab (P (6 * i)) (by omega) ?_
  unfold gB at e ⊢
  rw [if_pos (by omega), if_pos (by omega)] at e
  rw [if_pos (by omega), if_pos (by omega)]
  exact e
theorem i6 (i : Nat) : nI i * 6 = nI (6 * i) := by
  show nI i * nI 6 = _
  rw [pk_mul, Nat.mul_comm]
theorem six (i : Nat) : 6 * nI i = nI (6 * i) := by
  show nI 6 * nI i = _
  rw [pk_mul]
theorem will_in {n h : Nat} {P W : Nat → Nat} {codes : Nat → Int32} (hP : okP n P codes) (hg : ∀ j, j < n → gB j (P j) = 1) (hn : n = 6 * h - 1) (hh : h ≤ 4) {i : Nat} (hi : i < h) (back : Int32 → (Nat → Int32) → (Nat → Int32) → (Nat → Int32) → Int32 → Int32 → Int32 → Int32 → Option ((Nat → Int32) × (Nat → Int32) × (Nat → Int32) × Int32 × Int32 × Int32 × Int32)) (kinds made : Nat → Int32) (x1 x2 x3 x4 : Int32) :
    ∀ (d f t : Nat) (g : Nat → Int32), d = 4 - t → t ≤ 4 → d < f → okW (wIn P W i t) g → ∃ g', okW (wIn P W i 4) g' ∧ f_X1_takeFrom_41 codes back f (nI i) (nI t) kinds g made x1 x2 x3 x4 = back (nI (i + 1)) kinds g' made x1 x2 x3 x4 := by
  intro d
  induction d with
  | zero =>
    intro f t g hd ht hf hw
    obtain ⟨f, rfl⟩ : ∃ m, f = m + 1 := ⟨f - 1, by omega⟩
    have e : t = 4 := by omega
    subst e
    refine ⟨g, hw, ?_⟩
    refine (if_pos (sle (a := 4) (b := 4))).trans ?_
    rw [nI_1]
  | succ d ih =>
    intro f t g hd ht hf hw
    obtain ⟨f, rfl⟩ : ∃ m, f = m + 1 := ⟨f - 1, by omega⟩
    obtain ⟨b1, b2⟩ := dig_ok hg hn hh hi (show t < 4 by omega)
    obtain ⟨g', q1, q2⟩ := ih f (t + 1) (upd g (4 * i + t) (nI (P (6 * i + 1 + t) - 48))) (by omega) (by omega) (by omega) (okW_up hw (by omega))
    refine ⟨g', q1, ?_⟩
    refine (if_neg (snle (a := 4) (b := t))).trans ?_
    refine (bok (show f_X2_digitOf codes (nI i) (nI t) = some (nI (P (6 * i + 1 + t) - 48)) from ?_)).trans ?_
    · have e : ((nI i * 6) + 1) + nI t = nI (6 * i + 1 + t) := by rw [i6, nI_1, nI_add]
      unfold f_X2_digitOf
      rw [e]
      refine (bok (get_ok (i := 6 * i + 1 + t))).trans ?_
      rw [(hP (6 * i + 1 + t) (by omega)).1]
      exact congrArg some (pk_sub (b := 48) (by omega))
    · refine (bok (put_ok (i := i) (t := t))).trans ?_
      rw [nI_1]; exact q2
theorem mwill_in {n h : Nat} {P W : Nat → Nat} {pg : Nat → Int32} (hP : okP n P pg) (hg : ∀ j, j < n → gB j (P j) = 1) (hn : n = 6 * h - 1) (hh : h ≤ 4) {i : Nat} (hi : i < h) (back : Int32 → Int32 → Int32 → (Nat → Int32) → (Nat → Int32) → (Nat → Int32) → (Nat → Int32) → Int32 → Int32 → Int32 → (Nat → Int32) → (Nat → Int32) → Option (Int32 × Int32 × Int32 × (Nat → Int32) × (Nat → Int32) × (Nat → Int32) × (Nat → Int32) × Int32 × Int32 × Int32 × (Nat → Int32) × (Nat → Int32))) (x1 x2 x3 x4 x5 : Int32) (kinds things chs says dl : Nat → Int32) :
    ∀ (d f t : Nat) (g : Nat → Int32), d = 4 - t → t ≤ 4 → d < f → okW (wIn P W i t) g → ∃ g', okW (wIn P W i 4) g' ∧ f_X7_will_89 pg back f (nI i) (nI t) x1 x2 kinds g things chs x3 x4 x5 says dl = back (nI (i + 1)) x1 x2 kinds g' things chs x3 x4 x5 says dl := by
  intro d
  induction d with
  | zero =>
    intro f t g hd ht hf hw
    obtain ⟨f, rfl⟩ : ∃ m, f = m + 1 := ⟨f - 1, by omega⟩
    have e : t = 4 := by omega
    subst e
    refine ⟨g, hw, ?_⟩
    refine (if_pos (sle (a := 4) (b := 4))).trans ?_
    rw [nI_1]
  | succ d ih =>
    intro f t g hd ht hf hw
    obtain ⟨f, rfl⟩ : ∃ m, f = m + 1 := ⟨f - 1, by omega⟩
    obtain ⟨b1, b2⟩ := dig_ok hg hn hh hi (show t < 4 by omega)
    obtain ⟨g', q1, q2⟩ := ih f (t + 1) (upd g (4 * i + t) (nI (P (6 * i + 1 + t) - 48))) (by omega) (by omega) (by omega) (okW_up hw (by omega))
    refine ⟨g', q1, ?_⟩
    refine (if_neg (snle (a := 4) (b := t))).trans ?_
    rw [six, nI_1, nI_add, t4n]
    refine (bok (rd_ok (i := 6 * i + 1 + t))).trans ?_
    rw [(hP (6 * i + 1 + t) (by omega)).1, show nI (P (6 * i + 1 + t)) - 48 = nI (P (6 * i + 1 + t) - 48) from pk_sub (b := 48) (by omega)]
    refine (bok (wr_ok (i := 4 * i + t))).trans ?_
    rw [nI_1]; exact q2
theorem will_out {n h : Nat} {P K W : Nat → Nat} {codes : Nat → Int32} (hP : okP n P codes) (hg : ∀ j, j < n → gB j (P j) = 1) (hn : n = 6 * h - 1) (hh : h ≤ 4) (made : Nat → Int32) (x1 x2 x3 : Int32) :
    ∀ (d f i : Nat) (kinds g : Nat → Int32), d = h - i → i ≤ h → d < f → okK i (kOut P K i) kinds → okW (wOut P W i) g → ∃ kinds' g', okK h (kOut P K h) kinds' ∧ okW (wOut P W h) g' ∧ f_X1_takeFrom_12 codes f (nI i) kinds g made x1 x2 x3 (nI h) = f_X1_takeFrom_79 codes kinds' g' made x1 x2 x3 (nI h) := by
  intro d
  induction d with
  | zero =>
    intro f i kinds g hd hi hf hk hw
    obtain ⟨f, rfl⟩ : ∃ m, f = m + 1 := ⟨f - 1, by omega⟩
    have e : i = h := by omega
    subst e
    refine ⟨kinds, g, hk, hw, ?_⟩
    by_cases c : 4 ≤ i
    · exact if_pos (sle (a := 4) (b := i))
    · exact (if_neg (snle (a := 4) (b := i))).trans (if_pos (sle (a := i) (b := i)))
  | succ d ih =>
    intro f i kinds g hd hi hf hk hw
    obtain ⟨f, rfl⟩ : ∃ m, f = m + 1 := ⟨f - 1, by omega⟩
    obtain ⟨g1, q1, q2⟩ := will_in (W := wOut P W i) hP hg hn hh (show i < h by omega) (f_X1_takeFrom_12 codes f) (upd kinds i (nI (kc (P (6 * i))))) made x1 x2 x3 (nI h) 4 300 0 g (by omega) (by omega) (by omega) hw
    obtain ⟨k', g', r1, r2, r3⟩ := ih f (i + 1) (upd kinds i (nI (kc (P (6 * i))))) g1 (by omega) (by omega) (by omega) (okK_nx hk (kc_lt _)) q1
    refine ⟨k', g', r1, r2, ?_⟩
    refine (if_neg (snle (a := 4) (b := i))).trans ?_
    refine (if_neg (snle (a := h) (b := i))).trans ?_
    refine (bok (show f_X2_kindOf codes (nI i) = some (nI (kc (P (6 * i)))) from ?_)).trans ?_
    · unfold f_X2_kindOf
      rw [i6]
      refine (bok (get_ok (i := 6 * i))).trans ?_
      rw [(hP (6 * i) (by omega)).1]
      exact (bok (kin_ok hP hg hn hh (show i < h by omega)).1).trans rfl
    · refine (bok (set_ok (i := i))).trans ?_
      exact q2.trans r3
theorem mwill_out {n h : Nat} {P K W : Nat → Nat} {pg : Nat → Int32} (hP : okP n P pg) (hg : ∀ j, j < n → gB j (P j) = 1) (hn : n = 6 * h - 1) (hh : h ≤ 4) (x1 x3 x4 x5 : Int32) (says dl : Nat → Int32) :
    ∀ (d f i : Nat) (kinds g things chs : Nat → Int32), d = h - i → i ≤ h → d < f → okK i (kOut P K i) kinds → okW (wOut P W i) g → (∀ j, j < i → chs j = 0) → ∃ kinds' g' things' chs' says' dl', okK h (kOut P K h) kinds' ∧ okW (wOut P W h) g' ∧ (∀ j, j < h → chs' j = 0) ∧ okT h (lz (kOut P K h) (wOut P W h) h h) things' ∧ f_X7_will_47 pg f (nI i) x1 (nI h) kinds g things chs x3 x4 x5 says dl = some (nI h, x1 + 1, nI h, kinds', g', things', chs', 0, 0, 0, says', dl') := by
  intro d
  induction d with
  | zero =>
    intro f i kinds g things chs hd hi hf hk hw hc
    obtain ⟨f, rfl⟩ : ∃ m, f = m + 1 := ⟨f - 1, by omega⟩
    have e : i = h := by omega
    subst e
    obtain ⟨r, t', s', e', q1, q2, _⟩ := dealNow_ok (things := things) (says := says) (dealt := dl) hk hw hh 0
    refine ⟨kinds, g, t', chs, s', e', hk, hw, hc, q1, ?_⟩
    refine (if_pos (sle (a := i) (b := i))).trans ?_
    exact (bok q2).trans rfl
  | succ d ih =>
    intro f i kinds g things chs hd hi hf hk hw hc
    obtain ⟨f, rfl⟩ : ∃ m, f = m + 1 := ⟨f - 1, by omega⟩
    obtain ⟨g1, q1, q2⟩ := mwill_in (W := wOut P W i) hP hg hn hh (show i < h by omega) (f_X7_will_47 pg f) x1 (nI h) x3 x4 x5 (upd kinds i (nI (kc (P (6 * i))))) (upd things i (-1)) (upd chs i 0) says dl 4 300 0 g (by omega) (by omega) (by omega) hw
    obtain ⟨k', g', t', c', s', e', r1, r2, r3, r4, r5⟩ := ih f (i + 1) (upd kinds i (nI (kc (P (6 * i))))) g1 (upd things i (-1)) (upd chs i 0) (by omega) (by omega) (by omega) (okK_nx hk (kc_lt _)) q1 (fun j hj => by
      by_cases cj : j = i
      · subst cj; exact us
      · rw [un cj]; exact hc j (by omega))
    refine ⟨k', g', t', c', s', e', r1, r2, r3, r4, ?_⟩
    refine (if_neg (snle (a := h) (b := i))).trans ?_
    rw [six]
    refine (bok (rd_ok (i := 6 * i))).trans ?_
    rw [(hP (6 * i) (by omega)).1]
    refine (bok (kin_ok hP hg hn hh (show i < h by omega)).2).trans ?_
    refine (bok (wr_ok (i := i))).trans ?_
    refine (bok (wr_ok (i := i))).trans ?_
    refine (bok (wr_ok (i := i))).trans ?_
    exact q2.trans r5
theorem forget_loop {x1 x2 : Int32} : ∀ (d f i : Nat) (g : Nat → Int32), d = 4 - i → i ≤ 4 → d < f → (∀ j, j < i → g j = 0) → ∃ g', (∀ j, j < 4 → g' j = 0) ∧ f_X4_forgetAll_2 f (nI i) g x1 x2 = some (g', 0, 0) := by
  intro d
  induction d with
  | zero =>
    intro f i g hd hi hf hg
    obtain ⟨f, rfl⟩ : ∃ m, f = m + 1 := ⟨f - 1, by omega⟩
    have e : i = 4 := by omega
    subst e
    exact ⟨g, hg, if_pos (sle (a := 4) (b := 4))⟩
  | succ d ih =>
    intro f i g hd hi hf hg
    obtain ⟨f, rfl⟩ : ∃ m, f = m + 1 := ⟨f - 1, by omega⟩
    obtain ⟨g', q1, q2⟩ := ih f (i + 1) (upd g i 0) (by omega) (by omega) (by omega) (fun j hj => by
      by_cases cj : j = i
      · subst cj; exact us
      · rw [un cj]; exact hg j (by omega))
    refine ⟨g', q1, ?_⟩
    refine (if_neg (snle (a := 4) (b := i))).trans ?_
    refine (bok (set_ok (i := i))).trans ?_
    rw [nI_1]; exact q2
/-- a will on both sides: refused on both, or read on both -/
theorem will_eq {n : Nat} {P K W : Nat → Nat} {codes pg kinds worths made mk mw mt mc ms md : Nat → Int32} (hn : n ≤ 25) (h1 : okP n P codes) (h2 : okP n P pg) (hW : okW W worths) (hW2 : okW W mw) (lie ch he hI rr mch mhe mI ww : Int32) :
    (f_X6_will codes (nI n) kinds worths made lie ch he hI rr = some (-103, nI n, kinds, worths, made, lie, ch, he, hI, rr) ∧ f_X7_will ww mI mk mw mt mc mch mhe (nI n) pg ms md = some (-103, ww, mI, mk, mw, mt, mc, mch, mhe, nI n, ms, md)) ∨
    ∃ h K' W' x' k' w' m' mk' mw' mt' mc' ms' md', 2 ≤ h ∧ h ≤ 4 ∧ okK h K' k' ∧ okW W' w' ∧ okK h K' mk' ∧ okW W' mw' ∧ okX h x' ∧ okT h x' mt' ∧ (∀ j, j < h → m' j = 0) ∧ (∀ j, j < h → mc' j = 0) ∧ f_X6_will codes (nI n) kinds worths made lie ch he hI rr = some (nI h, 0, k', w', m', nI x', 0, 0, nI h, rr + 1) ∧ f_X7_will ww mI mk mw mt mc mch mhe (nI n) pg ms md = some (nI h, ww + 1, nI h, mk', mw', mt', mc', 0, 0, 0, ms', md') := by
  obtain ⟨r, r1, r2, r3, r4⟩ := fault_eq hn h1 h2
  obtain ⟨s1, s2, s3⟩ := six_tab n (by omega)
  by_cases c : r = n ∧ n % 6 = 5 ∧ 2 ≤ (n + 1) / 6
  · obtain ⟨c1, c2, c3⟩ := c
    subst c1
    have hg := r2 rfl
    have hr : r ≤ 23 := by
      apply Classical.byContradiction
      intro q
      have := hg 23 (by omega)
      unfold gB at this
      rw [if_neg (by omega)] at this
      omega
    have hh : (r + 1) / 6 ≤ 4 := by omega
    have he1 : r = 6 * ((r + 1) / 6) - 1 := by omega
    generalize hq : (r + 1) / 6 = h at *
    obtain ⟨k', w', a1, a2, a3⟩ := will_out (K := K) h1 hg he1 hh made lie ch he h 300 0 kinds worths (by omega) (by omega) (by omega) (fun j hj => absurd hj (by omega)) hW
    obtain ⟨mk', mw', mt', mc', ms', md', b1, b2, b3, b4, b5⟩ := mwill_out (K := K) h2 hg he1 hh ww mch mhe (nI r) ms md h 300 0 mk mw mt mc (by omega) (by omega) (by omega) (fun j hj => absurd hj (by omega)) hW2 (fun j hj => absurd hj (by omega))
    obtain ⟨m', m1, m2⟩ := forget_loop (x1 := ch) (x2 := he) 4 300 0 made (by omega) (by omega) (by omega) (fun j hj => absurd hj (by omega))
    refine Or.inr ⟨h, kOut P K h, wOut P W h, lz (kOut P K h) (wOut P W h) h h, k', w', m', mk', mw', mt', mc', ms', md', c3, hh, a1, a2, b1, b2, okX_deal a2 hh, b4, fun j hj => m1 j (by omega), b3, ?_, ?_⟩
    · refine (bok (show f_X2_heirsNamed codes (nI r) = some (nI h) from ?_)).trans ?_
      · unfold f_X2_heirsNamed
        rw [s1, s2]
        refine (if_pos (seq (a := (r + 1) % 6) (b := 0))).trans ?_
        refine (if_neg (snlt (a := h) (b := 2))).trans ?_
        refine (if_neg (by decide)).trans ?_
        exact (bok r3).trans (if_pos rfl)
      · refine (if_neg (nI_ne0 (by omega) (by omega))).trans ?_
        refine (bok (a3.trans ?_ : f_X1_takeFrom kinds worths made lie ch he hI codes (nI h) = some (k', w', m', nI (lz (kOut P K h) (wOut P W h) h h), 0, 0, nI h))).trans rfl
        exact (bok m2).trans ((bok (dealt_ok a1 a2 hh)).trans rfl)
    · refine (bok r4).trans ?_
      refine (if_pos rfl).trans ?_
      rw [s3, s2]
      refine (if_pos (seq (a := r % 6) (b := 5))).trans ?_
      refine (if_pos (sle (a := 2) (b := h))).trans ?_
      exact b5
  · refine Or.inl ⟨?_, ?_⟩
    · refine (bok (show f_X2_heirsNamed codes (nI n) = some 0 from ?_)).trans (if_pos rfl)
      unfold f_X2_heirsNamed
      rw [s1, s2]
      by_cases d1 : (n + 1) % 6 = 0
      · refine (if_pos (seq (a := (n + 1) % 6) (b := 0))).trans ?_
        by_cases d2 : (n + 1) / 6 < 2
        · exact (if_pos (slt (a := (n + 1) / 6) (b := 2))).trans (show f_X2_heirsNamed_32 codes (nI n) (nI ((n + 1) / 6)) 0 = some 0 from if_pos rfl)
        · refine (if_neg (snlt (a := (n + 1) / 6) (b := 2))).trans ?_
          refine (if_neg (by decide)).trans ?_
          refine (bok r3).trans (if_neg (sne (a := r) (b := n)))
      · exact (if_neg (sne (a := (n + 1) % 6) (b := 0))).trans (show f_X2_heirsNamed_32 codes (nI n) (nI ((n + 1) / 6)) 0 = some 0 from if_pos rfl)
    · refine (bok r4).trans ?_
      by_cases d1 : r = n
      · refine (if_pos (seq d1)).trans ?_
        rw [s3, s2]
        by_cases d2 : n % 6 = 5
        · refine (if_pos (seq (a := n % 6) (b := 5))).trans ?_
          exact if_neg (snle (a := 2) (b := (n + 1) / 6))
        · exact if_neg (sne (a := n % 6) (b := 5))
      · exact if_neg (sne (a := r) (b := n))
