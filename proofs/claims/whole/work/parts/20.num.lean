/-! ===== plain numbers: small ones, rows, a loop ===== -/
theorem sle {a b : Nat} (h : a ≤ b := by omega) (hb : b < 2147483648 := by omega) : nI a ≤ nI b := nI_le h hb
theorem snle {a b : Nat} (h : b < a := by omega) (ha : a < 2147483648 := by omega) : ¬ nI a ≤ nI b := nI_ge h ha
theorem slt {a b : Nat} (h : a < b := by omega) (hb : b < 2147483648 := by omega) : nI a < nI b := nI_lt h hb
theorem snlt {a b : Nat} (h : b ≤ a := by omega) (ha : a < 2147483648 := by omega) : ¬ nI a < nI b := nI_nlt h ha
theorem sne {a b : Nat} (h : a ≠ b := by omega) (ha : a < 2147483648 := by omega) (hb : b < 2147483648 := by omega) : ¬ nI a = nI b := fun e => h ((nI_eq ha hb).mp e)
theorem seq {a b : Nat} (h : a = b := by omega) : nI a = nI b := by rw [h]
theorem bok {α β : Type} {a : Option α} {v : α} {k : α → Option β} (h : a = some v) : a.bind k = k v := by rw [h]; rfl
theorem nIc {i : Nat} (h : i < 2147483648) : (nI i).toNatClampNeg = i := nI_clamp h
theorem rd_ok {f : Nat → Int32} {n i : Nat} (h : i < n := by omega) (hn : n < 2147483648 := by omega) : rd f n (nI i) = some (f i) := by
  have h1 : (nI i).toInt = (i : Int) := nI_toInt (by omega)
  unfold rd
  rw [if_pos ⟨by omega, by omega⟩, nIc (by omega)]
theorem wr_ok {f : Nat → Int32} {n i : Nat} {x : Int32} (h : i < n := by omega) (hn : n < 2147483648 := by omega) : wr f n (nI i) x = some (upd f i x) := by
  have h1 : (nI i).toInt = (i : Int) := nI_toInt (by omega)
  unfold wr
  rw [if_pos ⟨by omega, by omega⟩, nIc (by omega)]
theorem us {f : Nat → Int32} {k : Nat} {x : Int32} : upd f k x k = x := pk_us
theorem un {f : Nat → Int32} {k j : Nat} {x : Int32} (h : j ≠ k) : upd f k x j = f j := pk_un h
theorem get_ok {f : Nat → Int32} {n i : Nat} (h : i < n := by omega) (hn : n < 2147483648 := by omega) : f_X3_get n f (nI i) = some (f i) := by
  refine (if_neg (snlt (a := i) (b := 0))).trans ?_
  refine (if_neg (snle (a := n) (b := i))).trans ?_
  exact (bok rd_ok).trans rfl
theorem set_ok {f : Nat → Int32} {n i : Nat} {x : Int32} (h : i < n := by omega) (hn : n < 2147483648 := by omega) : f_X3_set n f (nI i) x = some (upd f i x) := by
  refine (if_neg (snlt (a := i) (b := 0))).trans ?_
  refine (if_neg (snle (a := n) (b := i))).trans ?_
  exact (bok wr_ok).trans rfl
theorem n4t (i t : Nat) : nI i * 4 + nI t = nI (4 * i + t) := by
  show nI i * nI 4 + nI t = _
  rw [pk_mul, nI_add, Nat.mul_comm]
theorem t4n (i t : Nat) : 4 * nI i + nI t = nI (4 * i + t) := by
  show nI 4 * nI i + nI t = _
  rw [pk_mul, nI_add]
theorem at_ok {f : Nat → Int32} {i t : Nat} (h : 4 * i + t < 16 := by omega) : f_X5_at f (nI i) (nI t) = some (f (4 * i + t)) := by
  unfold f_X5_at
  rw [n4t]
  refine (if_neg (snlt (a := 4 * i + t) (b := 0))).trans ?_
  refine (if_neg (snle (a := 16) (b := 4 * i + t))).trans ?_
  exact (bok rd_ok).trans rfl
theorem put_ok {f : Nat → Int32} {i t : Nat} {x : Int32} (h : 4 * i + t < 16 := by omega) : f_X5_put f (nI i) (nI t) x = some (upd f (4 * i + t) x) := by
  unfold f_X5_put
  rw [n4t]
  refine (if_neg (snlt (a := 4 * i + t) (b := 0))).trans ?_
  refine (if_neg (snle (a := 16) (b := 4 * i + t))).trans ?_
  exact (bok wr_ok).trans rfl
/-! ===== what one says ===== -/
def sAs (k w a : Nat) : Nat := if k = 1 then 9 - w else if k = 2 then 5 else if k = 3 then 9 - a else if k = 4 then (if w < 5 then 0 else 9 - w) else w
theorem sAs_le {k w a : Nat} (hw : w ≤ 9) : sAs k w a ≤ 9 := by
  unfold sAs
  repeat' split
  all_goals omega
set_option maxRecDepth 20000 in
theorem saidAs_tab : ∀ k, k < 5 → ∀ w, w < 10 → ∀ a, a < 10 → f_X1_saidAs (nI k) (nI w) (nI a) = some (nI (sAs k w a)) := by decide +kernel
theorem saidAs_ok {k w a : Nat} (hk : k < 5) (hw : w ≤ 9) (ha : a ≤ 9) : f_X1_saidAs (nI k) (nI w) (nI a) = some (nI (sAs k w a)) := saidAs_tab k hk w (by omega) a (by omega)
def sd (K W : Nat → Nat) : Nat → Nat → Nat
  | 0, t => sAs (K 0) (W t) 0
  | i + 1, t => sAs (K (i + 1)) (W (4 * (i + 1) + t)) (sd K W i t)
/-- kinds of the first h, what all is worth -/
def okK (h : Nat) (K : Nat → Nat) (f : Nat → Int32) : Prop := ∀ i, i < h → f i = nI (K i) ∧ K i < 5
def okW (W : Nat → Nat) (f : Nat → Int32) : Prop := ∀ j, j < 16 → f j = nI (W j) ∧ W j ≤ 9
theorem sd_le {K W : Nat → Nat} {f : Nat → Int32} (hW : okW W f) {i t : Nat} (hi : i < 4) (ht : t < 4) : sd K W i t ≤ 9 := by
  cases i with
  | zero => exact sAs_le (hW t (by omega)).2
  | succ i => exact sAs_le (hW (4 * (i + 1) + t) (by omega)).2
theorem said_step {h : Nat} {K W : Nat → Nat} {kinds worths : Nat → Int32} (hK : okK h K kinds) (hW : okW W worths) (hh : h ≤ 4) {n i t a e : Nat} (hi : i < h) (ht : t < 4) (ha : a ≤ 9) (he : e ≤ i) :
    f_X1_saidBy_5 kinds worths (n + 1) (nI i) (nI t) (nI a) (nI e) = f_X1_saidBy_5 kinds worths n (nI i) (nI t) (nI (sAs (K e) (W (4 * e + t)) a)) (nI (e + 1)) := by
  refine (if_neg (snle (a := 4) (b := e))).trans ?_
  refine (if_neg (snlt (a := i) (b := e))).trans ?_
  obtain ⟨k1, k2⟩ := hK e (by omega)
  obtain ⟨w1, w2⟩ := hW (4 * e + t) (by omega)
  refine (bok (get_ok (i := e))).trans ?_
  refine (bok (at_ok (i := e) (t := t))).trans ?_
  rw [k1, w1]
  refine (bok (saidAs_ok k2 w2 ha)).trans ?_
  rw [nI_1]
theorem said_ok {h : Nat} {K W : Nat → Nat} {kinds worths : Nat → Int32} (hK : okK h K kinds) (hW : okW W worths) (hh : h ≤ 4) {i t : Nat} (hi : i < h) (ht : t < 4) : f_X1_saidBy kinds worths (nI i) (nI t) = some (nI (sd K W i t)) := by
  have key : ∀ e, e ≤ i → f_X1_saidBy kinds worths (nI i) (nI t) = f_X1_saidBy_5 kinds worths (299 - e) (nI i) (nI t) (nI (sd K W e t)) (nI (e + 1)) := by
    intro e
    induction e with
    | zero =>
      intro _
      have := said_step hK hW hh (n := 299) (i := i) (t := t) (a := 0) (e := 0) hi ht (by omega) (by omega)
      rw [show 4 * 0 + t = t by omega] at this
      exact this
    | succ e ih =>
      intro he
      rw [ih (by omega), show 299 - e = (299 - (e + 1)) + 1 by omega]
      exact said_step hK hW hh hi ht (sd_le hW (by omega) ht) he
  rw [key i (Nat.le_refl i), show 299 - i = (298 - i) + 1 by omega]
  by_cases h4 : 4 ≤ i + 1
  · exact if_pos (sle (a := 4) (b := i + 1))
  · refine (if_neg (snle (a := 4) (b := i + 1))).trans ?_
    exact if_pos (slt (a := i) (b := i + 1))
/-! the reference's table of it -/
def okS (K W : Nat → Nat) (p : Nat) (f : Nat → Int32) : Prop := ∀ j, j < p → f j = nI (sd K W (j / 4) (j % 4))
theorem okS_up {K W : Nat → Nat} {f : Nat → Int32} {i t : Nat} (ht : t < 4) (h : okS K W (4 * i + t) f) : okS K W (4 * i + t + 1) (upd f (4 * i + t) (nI (sd K W i t))) := by
  intro j hj
  by_cases e : j = 4 * i + t
  · subst e
    rw [us, show (4 * i + t) / 4 = i by omega, show (4 * i + t) % 4 = t by omega]
  · rw [un e]
    exact h j (by omega)
theorem okS_at {K W : Nat → Nat} {f : Nat → Int32} {p i t : Nat} (h : okS K W p f) (ht : t < 4) (hp : 4 * i + t < p) : f (4 * i + t) = nI (sd K W i t) := by
  have := h (4 * i + t) hp
  rwa [show (4 * i + t) / 4 = i by omega, show (4 * i + t) % 4 = t by omega] at this
theorem saysBy_ok {h : Nat} {K W : Nat → Nat} {kinds worths says : Nat → Int32} (hK : okK h K kinds) (hW : okW W worths) (hh : h ≤ 4) {i t : Nat} (hi : i < h) (ht : t < 4) (hs : okS K W (4 * i + t) says) : f_X7_saysBy kinds worths says (nI i) (nI t) = some (nI (sd K W i t)) := by
  obtain ⟨k1, k2⟩ := hK i hi
  obtain ⟨w1, w2⟩ := hW (4 * i + t) (by omega)
  unfold f_X7_saysBy
  rw [t4n]
  refine (bok (rd_ok (i := 4 * i + t))).trans ?_
  refine (bok (rd_ok (i := i))).trans ?_
  rw [k1, w1]
  have ds : sd K W i t = sAs (K i) (W (4 * i + t)) (if i = 0 then 0 else sd K W (i - 1) t) := by
    cases i with
    | zero => rw [show 4 * 0 + t = t by omega]; rfl
    | succ i => rfl
  rw [ds]
  unfold sAs
  by_cases c1 : K i = 1
  · rw [c1]
    refine (if_pos rfl).trans ?_
    rw [if_pos rfl]
    exact congrArg some (pk_sub (a := 9) w2)
  refine (if_neg (sne (a := K i) (b := 1))).trans ?_
  rw [if_neg c1]
  by_cases c2 : K i = 2
  · rw [c2]
    exact (if_pos rfl).trans (by rw [if_pos rfl]; rfl)
  refine (if_neg (sne (a := K i) (b := 2))).trans ?_
  rw [if_neg c2]
  by_cases c3 : K i = 3
  · rw [c3]
    refine (if_pos rfl).trans ?_
    rw [if_pos rfl]
    by_cases i0 : i = 0
    · subst i0
      exact (if_pos rfl).trans rfl
    · refine (if_neg (sne (a := i) (b := 0))).trans ?_
      rw [if_neg i0, show nI i - 1 = nI (i - 1) from pk_sub (b := 1) (by omega), t4n]
      refine (bok (rd_ok (i := 4 * (i - 1) + t))).trans ?_
      rw [okS_at hs ht (by omega)]
      exact congrArg some (pk_sub (a := 9) (sd_le hW (by omega) ht))
  refine (if_neg (sne (a := K i) (b := 3))).trans ?_
  rw [if_neg c3]
  by_cases c4 : K i = 4
  · rw [c4]
    refine (if_pos rfl).trans ?_
    rw [if_pos rfl]
    by_cases w5 : W (4 * i + t) < 5
    · rw [if_pos w5]
      exact (if_pos (slt (a := W (4 * i + t)) (b := 5))).trans rfl
    · rw [if_neg w5]
      refine (if_neg (snlt (a := W (4 * i + t)) (b := 5))).trans ?_
      exact congrArg some (pk_sub (a := 9) w2)
  refine (if_neg (sne (a := K i) (b := 4))).trans ?_
  rw [if_neg c4]
theorem lay_in {h : Nat} {K W : Nat → Nat} {kinds worths : Nat → Int32} (hK : okK h K kinds) (hW : okW W worths) (hh : h ≤ 4) {i : Nat} (hi : i < h) (back : Int32 → (Nat → Int32) → Option (Nat → Int32)) :
    ∀ (d n t : Nat) (says : Nat → Int32), d = 4 - t → t ≤ 4 → d < n → okS K W (4 * i + t) says → ∃ g, okS K W (4 * (i + 1)) g ∧ f_X7_laySays_12 (nI h) kinds worths back n (nI i) (nI t) says = back (nI (i + 1)) g := by
  intro d
  induction d with
  | zero =>
    intro n t says hd ht hn hs
    have h4 : t = 4 := by omega
    subst h4
    obtain ⟨n, rfl⟩ : ∃ m, n = m + 1 := ⟨n - 1, by omega⟩
    refine ⟨says, by rwa [show 4 * (i + 1) = 4 * i + 4 by omega], ?_⟩
    refine (if_pos (sle (a := 4) (b := 4))).trans ?_
    rw [nI_1]
  | succ d ih =>
    intro n t says hd ht hn hs
    obtain ⟨n, rfl⟩ : ∃ m, n = m + 1 := ⟨n - 1, by omega⟩
    obtain ⟨g, g1, g2⟩ := ih n (t + 1) (upd says (4 * i + t) (nI (sd K W i t))) (by omega) (by omega) (by omega) (okS_up (by omega) hs)
    refine ⟨g, g1, ?_⟩
    refine (if_neg (snle (a := 4) (b := t))).trans ?_
    refine (bok (saysBy_ok hK hW hh hi (by omega) hs)).trans ?_
    rw [t4n]
    refine (bok (wr_ok (i := 4 * i + t))).trans ?_
    rw [nI_1]
    exact g2
theorem lay_out {h : Nat} {K W : Nat → Nat} {kinds worths : Nat → Int32} (hK : okK h K kinds) (hW : okW W worths) (hh : h ≤ 4) :
    ∀ (d n i : Nat) (says : Nat → Int32), d = h - i → i ≤ h → d < n → okS K W (4 * i) says → ∃ g, okS K W (4 * h) g ∧ f_X7_laySays_2 (nI h) kinds worths n (nI i) says = some g := by
  intro d
  induction d with
  | zero =>
    intro n i says hd hi hn hs
    have h4 : i = h := by omega
    subst h4
    obtain ⟨n, rfl⟩ : ∃ m, n = m + 1 := ⟨n - 1, by omega⟩
    exact ⟨says, hs, if_pos (sle (a := i) (b := i))⟩
  | succ d ih =>
    intro n i says hd hi hn hs
    obtain ⟨n, rfl⟩ : ∃ m, n = m + 1 := ⟨n - 1, by omega⟩
    obtain ⟨g, g1, g2⟩ := lay_in hK hW hh (i := i) (by omega) (f_X7_laySays_2 (nI h) kinds worths n) 4 300 0 says (by omega) (by omega) (by omega) hs
    obtain ⟨g', h1, h2⟩ := ih n (i + 1) g (by omega) (by omega) (by omega) g1
    refine ⟨g', h1, ?_⟩
    refine (if_neg (snle (a := h) (b := i))).trans ?_
    exact g2.trans h2
theorem laySays_ok {h : Nat} {K W : Nat → Nat} {kinds worths says : Nat → Int32} (hK : okK h K kinds) (hW : okW W worths) (hh : h ≤ 4) : ∃ g, okS K W (4 * h) g ∧ f_X7_laySays (nI h) kinds worths says = some g :=
  lay_out hK hW hh h 300 0 says (by omega) (by omega) (by omega) (fun j hj => absurd hj (by omega))
