theorem p4 {h : Nat} (hh : h ≤ 4) : 4 ^ h ≤ 256 := by
  have : 4 ^ h ≤ 4 ^ 4 := Nat.pow_le_pow_right (by decide) hh
  exact this
theorem thing_ok {h x i : Nat} (hh : h ≤ 4) (hx : x < 4 ^ h) (hi : i < h) : f_X1_thingIn (nI h) (nI x) (nI i) = some (nI (dg h x i)) := thing_tab h (by omega) i (by omega) hi x (Nat.lt_of_lt_of_le hx (p4 hh))
theorem placed_ok {h x i t : Nat} (hh : h ≤ 4) (hx : x < 4 ^ h) (hi : i < h) (ht : t < 4) : f_X1_placed (nI h) (nI x) (nI i) (nI t) = some (nI (pl h x i t)) := placed_tab h (by omega) i (by omega) hi t ht x (Nat.lt_of_lt_of_le hx (p4 hh))
theorem pl_ok {h x i t : Nat} (hh : h ≤ 4) (hx : x < 4 ^ h) (hi : i < h) (ht : t < 4) : pl h x i t < 4 ^ h ∧ dg h (pl h x i t) i = t ∧ ∀ j, j < h → j ≠ i → dg h (pl h x i t) j = dg h x j := by
  obtain ⟨a, b, c⟩ := pl_tab h (by omega) i (by omega) hi t ht x (Nat.lt_of_lt_of_le hx (p4 hh)) hx
  exact ⟨a, b, fun j hj hne => c j (by omega) hj hne⟩
theorem swp_ok {h x a b : Nat} (hh : h ≤ 4) (hx : x < 4 ^ h) (ha : a < h) (hb : b < h) (hab : a ≠ b) : swp h x a b < 4 ^ h ∧ dg h (swp h x a b) a = dg h x b ∧ dg h (swp h x a b) b = dg h x a ∧ ∀ j, j < h → j ≠ a → j ≠ b → dg h (swp h x a b) j = dg h x j := by
  obtain ⟨a1, a2, a3⟩ := pl_ok hh hx ha (dg_lt h x b)
  obtain ⟨b1, b2, b3⟩ := pl_ok hh a1 hb (dg_lt h x a)
  exact ⟨b1, by unfold swp; rw [b3 a ha hab, a2], b2, fun j hj h1 h2 => by unfold swp; rw [b3 j hj h2, a3 j hj h1]⟩
theorem changed_ok {h x a b : Nat} (hh : h ≤ 4) (hx : x < 4 ^ h) (ha : a < h) (hb : b < h) : f_X1_changed (nI h) (nI x) (nI a) (nI b) = some (nI (swp h x a b)) := by
  refine (bok (thing_ok hh hx hb)).trans ?_
  refine (bok (placed_ok hh hx ha (dg_lt h x b))).trans ?_
  refine (bok (thing_ok hh hx ha)).trans ?_
  exact (bok (placed_ok hh (pl_ok hh hx ha (dg_lt h x b)).1 hb (dg_lt h x a))).trans rfl
/-- each heir has another thing -/
def okX (h x : Nat) : Prop := x < 4 ^ h ∧ ∀ i, i < h → ∀ j, j < h → i ≠ j → dg h x i ≠ dg h x j
theorem okX_swp {h x a b : Nat} (hh : h ≤ 4) (hx : okX h x) (ha : a < h) (hb : b < h) (hab : a ≠ b) : okX h (swp h x a b) := by
  obtain ⟨s1, s2, s3, s4⟩ := swp_ok hh hx.1 ha hb hab
  refine ⟨s1, fun i hi j hj hij => ?_⟩
  by_cases ia : i = a
  · subst ia
    by_cases jb : j = b
    · subst jb
      rw [s2, s3]
      exact hx.2 _ hj _ hi (Ne.symm hij)
    · rw [s2, s4 j hj (Ne.symm hij) jb]
      exact hx.2 _ hb _ hj (Ne.symm jb)
  · by_cases ib : i = b
    · subst ib
      by_cases ja : j = a
      · subst ja
        rw [s2, s3]
        exact hx.2 _ hj _ hi (Ne.symm hij)
      · rw [s3, s4 j hj ja (Ne.symm hij)]
        exact hx.2 _ ha _ hj (Ne.symm ja)
    · rw [s4 i hi ia ib]
      by_cases ja : j = a
      · subst ja
        rw [s2]
        exact hx.2 _ hi _ hb ib
      · by_cases jb : j = b
        · subst jb
          rw [s3]
          exact hx.2 _ hi _ ha ia
        · rw [s4 j hj ja jb]
          exact hx.2 _ hi _ hj hij
/-! ===== the deal ===== -/
def pk (f : Nat → Nat) (g : Nat) : Nat → Nat × Nat
  | 0 => (0, 10)
  | t + 1 => if g.testBit t = false ∧ f t < (pk f g t).2 then (t, f t) else pk f g t
theorem pk_inv {f : Nat → Nat} {g : Nat} (hf : ∀ t, t < 4 → f t ≤ 9) : ∀ t, t ≤ 4 → ((pk f g t).2 = 10 ∧ (pk f g t).1 = 0 ∧ ∀ s, s < t → g.testBit s = true) ∨ ((pk f g t).1 < t ∧ g.testBit (pk f g t).1 = false ∧ (pk f g t).2 = f (pk f g t).1 ∧ (pk f g t).2 ≤ 9) := by
  intro t
  induction t with
  | zero => intro _; exact Or.inl ⟨rfl, rfl, fun s hs => absurd hs (by omega)⟩
  | succ t ih =>
    intro ht
    unfold pk
    by_cases c : g.testBit t = false ∧ f t < (pk f g t).2
    · rw [if_pos c]
      exact Or.inr ⟨by show t < t + 1; omega, c.1, rfl, hf t (by omega)⟩
    · rw [if_neg c]
      rcases ih (by omega) with ⟨h1, h2, h3⟩ | ⟨h1, h2, h3, h4⟩
      · refine Or.inl ⟨h1, h2, fun s hs => ?_⟩
        by_cases e : s = t
        · subst e
          cases hb : g.testBit s with
          | true => rfl
          | false => exact absurd ⟨hb, by rw [h1]; have := hf s (by omega); omega⟩ c
        · exact h3 s (by omega)
      · exact Or.inr ⟨by omega, h2, h3, h4⟩
theorem pk_b {f : Nat → Nat} {g : Nat} (hf : ∀ t, t < 4 → f t ≤ 9) {t : Nat} (ht : t ≤ 4) : (pk f g t).1 < 4 ∧ (pk f g t).2 ≤ 10 := by
  rcases pk_inv (g := g) hf t ht with ⟨h1, h2, h3⟩ | ⟨h1, h2, h3, h4⟩ <;> omega
set_option maxRecDepth 20000 in
theorem bit_tab : ∀ g, g < 16 → ∀ t, t < 4 → ((nI g >>> (nI t &&& 31)) &&& 1) = (if g.testBit t = true then 1 else 0) := by decide +kernel
set_option maxRecDepth 20000 in
theorem bor_tab : ∀ g, g < 16 → ∀ t, t < 4 → nI g ||| ((1 : Int32) <<< (nI t &&& 31)) = nI (g ||| 2 ^ t) ∧ g ||| 2 ^ t < 16 := by decide +kernel
theorem least_loop {h : Nat} {K W : Nat → Nat} {kinds worths : Nat → Int32} (hK : okK h K kinds) (hW : okW W worths) (hh : h ≤ 4) {i g : Nat} (hi : i < h) (hg : g < 16) :
    ∀ (d n t : Nat), d = 4 - t → t ≤ 4 → d < n → f_X1_leastSaid_9 kinds worths n (nI i) (nI g) (nI (pk (sd K W i) g t).1) (nI (pk (sd K W i) g t).2) (nI t) = some (nI (pk (sd K W i) g 4).1) := by
  have hf : ∀ t, t < 4 → sd K W i t ≤ 9 := fun t ht => sd_le hW (by omega) ht
  intro d
  induction d with
  | zero =>
    intro n t hd ht hn
    have h4 : t = 4 := by omega
    subst h4
    obtain ⟨n, rfl⟩ : ∃ m, n = m + 1 := ⟨n - 1, by omega⟩
    exact if_pos (sle (a := 4) (b := 4))
  | succ d ih =>
    intro n t hd ht hn
    obtain ⟨n, rfl⟩ : ∃ m, n = m + 1 := ⟨n - 1, by omega⟩
    have hr := ih n (t + 1) (by omega) (by omega) (by omega)
    obtain ⟨b1, b2⟩ := pk_b (g := g) hf (t := t) (by omega)
    have f9 := hf t (by omega)
    refine (if_neg (snle (a := 4) (b := t))).trans ?_
    refine (bok (said_ok hK hW hh hi (by omega))).trans ?_
    rw [bit_tab g hg t (by omega), nI_1]
    unfold pk at hr
    cases hb : g.testBit t with
    | true =>
      rw [if_neg (by rw [hb]; exact fun q => absurd q.1 (by decide))] at hr
      refine (if_neg (by decide)).trans ?_
      exact hr
    | false =>
      refine (if_pos (by decide)).trans ?_
      by_cases c : sd K W i t < (pk (sd K W i) g t).2
      · rw [if_pos ⟨hb, c⟩] at hr
        refine (if_neg (snle (a := (pk (sd K W i) g t).2) (b := sd K W i t))).trans ?_
        exact hr
      · rw [if_neg (fun q => c q.2)] at hr
        refine (if_pos (sle (a := (pk (sd K W i) g t).2) (b := sd K W i t))).trans ?_
        exact hr
theorem least_ok {h : Nat} {K W : Nat → Nat} {kinds worths : Nat → Int32} (hK : okK h K kinds) (hW : okW W worths) (hh : h ≤ 4) {i g : Nat} (hi : i < h) (hg : g < 16) : f_X1_leastSaid kinds worths (nI i) (nI g) = some (nI (pk (sd K W i) g 4).1) :=
  least_loop hK hW hh hi hg 4 300 0 (by omega) (by omega) (by omega)
def gn (K W : Nat → Nat) : Nat → Nat
  | 0 => 0
  | i + 1 => gn K W i ||| 2 ^ (pk (sd K W i) (gn K W i) 4).1
def dD (K W : Nat → Nat) (i : Nat) : Nat := (pk (sd K W i) (gn K W i) 4).1
theorem free3 : ∀ a, a < 4 → ∀ b, b < 4 → ∀ c, c < 4 → ∃ t, t < 4 ∧ t ≠ a ∧ t ≠ b ∧ t ≠ c := by
  intro a ha b hb c hc
  by_cases h0 : 0 ≠ a ∧ 0 ≠ b ∧ 0 ≠ c
  · exact ⟨0, by decide, h0⟩
  by_cases h1 : 1 ≠ a ∧ 1 ≠ b ∧ 1 ≠ c
  · exact ⟨1, by decide, h1⟩
  by_cases h2 : 2 ≠ a ∧ 2 ≠ b ∧ 2 ≠ c
  · exact ⟨2, by decide, h2⟩
  exact ⟨3, by decide, by omega, by omega, by omega⟩
theorem bit_or (g t s : Nat) : (g ||| 2 ^ t).testBit s = (g.testBit s || decide (t = s)) := by
  rw [Nat.testBit_or, Nat.testBit_two_pow]
theorem gn_ok {K W : Nat → Nat} {worths : Nat → Int32} (hW : okW W worths) : ∀ i, i ≤ 4 → gn K W i < 16 ∧ (∀ t, (gn K W i).testBit t = true ↔ ∃ j, j < i ∧ dD K W j = t) ∧ (∀ j, j < i → dD K W j < 4) ∧ (∀ j, j < i → ∀ k, k < j → dD K W k ≠ dD K W j) := by
  intro i
  induction i with
  | zero => intro _; exact ⟨by show 0 < 16; decide, fun t => ⟨fun h => by simp [gn] at h, fun ⟨j, hj, _⟩ => absurd hj (by omega)⟩, fun j hj => absurd hj (by omega), fun j hj => absurd hj (by omega)⟩
  | succ i ih =>
    intro hi
    obtain ⟨g1, g2, g3, g4⟩ := ih (by omega)
    have hf : ∀ t, t < 4 → sd K W i t ≤ 9 := fun t ht => sd_le hW (by omega) ht
    have hex : ∃ t, t < 4 ∧ ∀ j, j < i → dD K W j ≠ t := by
      obtain ⟨t, t1, t2, t3, t4⟩ := free3 (if 0 < i then dD K W 0 else 0) (by split <;> first | exact g3 0 (by omega) | decide) (if 1 < i then dD K W 1 else 0) (by split <;> first | exact g3 1 (by omega) | decide) (if 2 < i then dD K W 2 else 0) (by split <;> first | exact g3 2 (by omega) | decide)
      refine ⟨t, t1, fun j hj => ?_⟩
      rcases (show j = 0 ∨ j = 1 ∨ j = 2 by omega) with rfl | rfl | rfl
      · rw [if_pos hj] at t2; exact Ne.symm t2
      · rw [if_pos hj] at t3; exact Ne.symm t3
      · rw [if_pos hj] at t4; exact Ne.symm t4
    obtain ⟨t, t1, t2⟩ := hex
    have hfree : (gn K W i).testBit t = false := by
      cases hb : (gn K W i).testBit t with
      | false => rfl
      | true =>
        obtain ⟨j, hj, e⟩ := (g2 t).mp hb
        exact absurd e (t2 j hj)
    rcases pk_inv (g := gn K W i) hf 4 (by omega) with ⟨h1, h2, h3⟩ | ⟨h1, h2, h3, h4⟩
    · rw [h3 t t1] at hfree; cases hfree
    · have hd : dD K W i < 4 := h1
      have hn : ∀ k, k < i → dD K W k ≠ dD K W i := fun k hk e => by
        have := (g2 (dD K W i)).mpr ⟨k, hk, e⟩
        rw [show (gn K W i).testBit (dD K W i) = false from h2] at this
        cases this
      refine ⟨(bor_tab _ g1 _ hd).2, fun s => ?_, fun j hj => ?_, fun j hj k hk => ?_⟩
      · rw [show gn K W (i + 1) = gn K W i ||| 2 ^ dD K W i from rfl, bit_or, Bool.or_eq_true, decide_eq_true_iff, g2 s]
        constructor
        · rintro (⟨j, hj, e⟩ | e)
          · exact ⟨j, by omega, e⟩
          · exact ⟨i, by omega, e⟩
        · rintro ⟨j, hj, e⟩
          by_cases q : j = i
          · subst q; exact Or.inr e
          · exact Or.inl ⟨j, by omega, e⟩
      · by_cases q : j = i
        · subst q; exact hd
        · exact g3 j (by omega)
      · by_cases q : j = i
        · subst q; exact hn k hk
        · exact g4 j (by omega) k hk
def lz (K W : Nat → Nat) (h : Nat) : Nat → Nat
  | 0 => 0
  | i + 1 => pl h (lz K W h i) i (dD K W i)
theorem lz_ok {h : Nat} {K W : Nat → Nat} {worths : Nat → Int32} (hW : okW W worths) (hh : h ≤ 4) : ∀ i, i ≤ h → lz K W h i < 4 ^ h ∧ ∀ j, j < i → dg h (lz K W h i) j = dD K W j := by
  intro i
  induction i with
  | zero => intro _; exact ⟨Nat.pow_pos (by decide), fun j hj => absurd hj (by omega)⟩
  | succ i ih =>
    intro hi
    obtain ⟨a, b⟩ := ih (by omega)
    have hd := (gn_ok (K := K) hW (i + 1) (by omega)).2.2.1 i (by omega)
    obtain ⟨c1, c2, c3⟩ := pl_ok hh a (show i < h by omega) hd
    refine ⟨c1, fun j hj => ?_⟩
    by_cases q : j = i
    · subst q; exact c2
    · exact (c3 j (by omega) q).trans (b j (by omega))
theorem dealt_loop {h : Nat} {K W : Nat → Nat} {kinds worths : Nat → Int32} (hK : okK h K kinds) (hW : okW W worths) (hh : h ≤ 4) :
    ∀ (d n i : Nat), d = h - i → i ≤ h → d < n → f_X1_dealt_6 kinds worths (nI h) n (nI (lz K W h i)) (nI (gn K W i)) (nI i) = some (nI (lz K W h h)) := by
  intro d
  induction d with
  | zero =>
    intro n i hd hi hn
    have h4 : i = h := by omega
    subst h4
    obtain ⟨n, rfl⟩ : ∃ m, n = m + 1 := ⟨n - 1, by omega⟩
    by_cases q : 4 ≤ i
    · exact if_pos (sle (a := 4) (b := i))
    · refine (if_neg (snle (a := 4) (b := i))).trans ?_
      exact if_pos (sle (a := i) (b := i))
  | succ d ih =>
    intro n i hd hi hn
    obtain ⟨n, rfl⟩ : ∃ m, n = m + 1 := ⟨n - 1, by omega⟩
    obtain ⟨g1, g2, g3, g4⟩ := gn_ok (K := K) hW i (by omega)
    have hd4 := (gn_ok (K := K) hW (i + 1) (by omega)).2.2.1 i (by omega)
    refine (if_neg (snle (a := 4) (b := i))).trans ?_
    refine (if_neg (snle (a := h) (b := i))).trans ?_
    refine (bok (least_ok hK hW hh (by omega) g1)).trans ?_
    refine (bok (placed_ok hh (lz_ok hW hh i (by omega)).1 (show i < h by omega) hd4)).trans ?_
    have := ih n (i + 1) (by omega) (by omega) (by omega)
    rw [nI_1]
    rw [show nI (gn K W i) ||| ((1 : Int32) <<< (nI (pk (sd K W i) (gn K W i) 4).1 &&& 31)) = nI (gn K W (i + 1)) from (bor_tab _ g1 _ hd4).1]
    exact this
theorem dealt_ok {h : Nat} {K W : Nat → Nat} {kinds worths : Nat → Int32} (hK : okK h K kinds) (hW : okW W worths) (hh : h ≤ 4) : f_X1_dealt kinds worths (nI h) = some (nI (lz K W h h)) :=
  dealt_loop hK hW hh h 300 0 (by omega) (by omega) (by omega)
theorem okX_deal {h : Nat} {K W : Nat → Nat} {worths : Nat → Int32} (hW : okW W worths) (hh : h ≤ 4) : okX h (lz K W h h) := by
  obtain ⟨a, b⟩ := lz_ok (K := K) hW hh h (Nat.le_refl h)
  obtain ⟨-, -, -, g4⟩ := gn_ok (K := K) hW h hh
  refine ⟨a, fun i hi j hj hij => ?_⟩
  rw [b i hi, b j hj]
  rcases Nat.lt_or_ge i j with q | q
  · exact g4 j hj i q
  · exact Ne.symm (g4 i hi j (by omega))
/-! the reference's deal -/
def bstI (p : Nat × Nat) : Int32 := if p.2 = 10 then -1 else nI p.1
theorem isIn_ok {g t : Nat} (hg : g < 16) (ht : t < 4) : f_X7_isIn (nI g) (nI t) = some (if g.testBit t = true then 1 else 0) := by
  unfold f_X7_isIn
  rw [bit_tab g hg t ht]
  cases g.testBit t <;> rfl
theorem nm1 (n : Nat) (h : n < 2147483648) : ¬ nI n = -1 := by
  intro e
  have h1 := congrArg Int32.toInt e
  rw [nI_toInt (by omega)] at h1
  have h2 : ((-1 : Int32)).toInt = -1 := by decide
  omega
theorem ldeal_in {h : Nat} {K W : Nat → Nat} {kinds worths : Nat → Int32} (hW : okW W worths) (hh : h ≤ 4) {i g : Nat} (hi : i < h) (hg : g < 16) (hfree : (pk (sd K W i) g 4).2 ≠ 10) {says dealt : Nat → Int32} (hs : okS K W (4 * h) says) (back : Int32 → Int32 → (Nat → Int32) → (Nat → Int32) → Option ((Nat → Int32) × (Nat → Int32))) :
    ∀ (d n t : Nat), d = 4 - t → t ≤ 4 → d < n → f_X7_layDeal_21 (nI h) kinds worths back n (nI g) (nI i) (bstI (pk (sd K W i) g t)) (nI t) says dealt = back (nI (g ||| 2 ^ (pk (sd K W i) g 4).1)) (nI (i + 1)) says (upd dealt i (nI (pk (sd K W i) g 4).1)) := by
  have hf : ∀ t, t < 4 → sd K W i t ≤ 9 := fun t ht => sd_le hW (by omega) ht
  intro d
  induction d with
  | zero =>
    intro n t hd ht hn
    have h4 : t = 4 := by omega
    subst h4
    obtain ⟨n, rfl⟩ : ∃ m, n = m + 1 := ⟨n - 1, by omega⟩
    refine (if_pos (sle (a := 4) (b := 4))).trans ?_
    refine (bok (wr_ok (i := i))).trans ?_
    have hb : bstI (pk (sd K W i) g 4) = nI (pk (sd K W i) g 4).1 := if_neg hfree
    rw [hb, (bor_tab g hg _ (pk_b hf (by omega)).1).1, nI_1]
  | succ d ih =>
    intro n t hd ht hn
    obtain ⟨n, rfl⟩ : ∃ m, n = m + 1 := ⟨n - 1, by omega⟩
    have hr := ih n (t + 1) (by omega) (by omega) (by omega)
    obtain ⟨b1, b2⟩ := pk_b (g := g) hf (t := t) (by omega)
    have f9 := hf t (by omega)
    -- what the piece behind the test of less comes to
    have tail : ∀ k0 : Int32, (k0 = 0 ∧ (pk (sd K W i) g t).2 ≤ sd K W i t) ∨ (k0 = 1 ∧ sd K W i t < (pk (sd K W i) g t).2) → f_X7_layDeal_61 (nI h) kinds worths back (f_X7_layDeal_21 (nI h) kinds worths back n) (nI g) (nI i) (bstI (pk (sd K W i) g t)) (nI t) k0 says dealt = back (nI (g ||| 2 ^ (pk (sd K W i) g 4).1)) (nI (i + 1)) says (upd dealt i (nI (pk (sd K W i) g 4).1)) := by
      intro k0 hk
      refine (bok (isIn_ok hg (show t < 4 by omega))).trans ?_
      unfold pk at hr
      cases hb : g.testBit t with
      | true =>
        rw [if_neg (by rw [hb]; exact fun q => absurd q.1 (by decide))] at hr
        refine (if_neg (by decide)).trans ?_
        show f_X7_layDeal_21 (nI h) kinds worths back n (nI g) (nI i) (bstI (pk (sd K W i) g t)) (nI t + 1) says dealt = _
        rw [nI_1]
        exact hr
      | false =>
        refine (if_pos (by decide)).trans ?_
        rcases hk with ⟨rfl, c⟩ | ⟨rfl, c⟩
        · rw [if_neg (fun q => absurd q.2 (by omega))] at hr
          refine (if_pos rfl).trans ?_
          show f_X7_layDeal_21 (nI h) kinds worths back n (nI g) (nI i) (bstI (pk (sd K W i) g t)) (nI t + 1) says dealt = _
          rw [nI_1]
          exact hr
        · rw [if_pos ⟨hb, c⟩] at hr
          refine (if_neg (by decide)).trans ?_
          show f_X7_layDeal_21 (nI h) kinds worths back n (nI g) (nI i) (nI t) (nI t + 1) says dealt = _
          rw [nI_1]
          have e : bstI (t, sd K W i t) = nI t := if_neg (by show ¬ sd K W i t = 10; omega)
          rw [e] at hr
          exact hr
    refine (if_neg (snle (a := 4) (b := t))).trans ?_
    by_cases c : (pk (sd K W i) g t).2 = 10
    · refine (if_pos (show bstI (pk (sd K W i) g t) = -1 from if_pos c)).trans ?_
      exact tail 1 (Or.inr ⟨rfl, by omega⟩)
    · have hb : bstI (pk (sd K W i) g t) = nI (pk (sd K W i) g t).1 := if_neg c
      refine (if_neg (show ¬ bstI (pk (sd K W i) g t) = -1 by rw [hb]; exact nm1 _ (by omega))).trans ?_
      rcases pk_inv (g := g) hf t (by omega) with ⟨h1, h2, h3⟩ | ⟨h1, h2, h3, h4⟩
      · exact absurd h1 c
      · rw [t4n]
        refine (bok (rd_ok (i := 4 * i + t))).trans ?_
        rw [hb, t4n]
        refine (bok (rd_ok (i := 4 * i + (pk (sd K W i) g t).1))).trans ?_
        rw [okS_at hs (show t < 4 by omega) (by omega), okS_at hs b1 (by omega), ← h3]
        by_cases q : (pk (sd K W i) g t).2 ≤ sd K W i t
        · refine (if_pos (sle (a := (pk (sd K W i) g t).2) (b := sd K W i t))).trans ?_
          have := tail 0 (Or.inl ⟨rfl, q⟩)
          rw [hb] at this
          exact this
        · refine (if_neg (snle (a := (pk (sd K W i) g t).2) (b := sd K W i t))).trans ?_
          have := tail 1 (Or.inr ⟨rfl, by omega⟩)
          rw [hb] at this
          exact this
theorem pk_free {K W : Nat → Nat} {worths : Nat → Int32} (hW : okW W worths) {i : Nat} (hi : i < 4) : (pk (sd K W i) (gn K W i) 4).2 ≠ 10 := by
  have hf : ∀ t, t < 4 → sd K W i t ≤ 9 := fun t ht => sd_le hW (by omega) ht
  intro e
  rcases pk_inv (g := gn K W i) hf 4 (by omega) with ⟨h1, h2, h3⟩ | ⟨h1, h2, h3, h4⟩
  · obtain ⟨g1, g2, g3, g4⟩ := gn_ok (K := K) hW i (by omega)
    obtain ⟨a1, a2, a3, a4⟩ := gn_ok (K := K) hW (i + 1) (by omega)
    -- all four bits are set by fewer than four
    have hd : dD K W i = 0 := h2
    obtain ⟨j, hj, ej⟩ := (g2 0).mp (h3 0 (by omega))
    exact a4 i (by omega) j hj (ej.trans hd.symm)
  · omega
def okDl (K W : Nat → Nat) (p : Nat) (f : Nat → Int32) : Prop := ∀ j, j < p → f j = nI (dD K W j)
theorem ldeal_out {h : Nat} {K W : Nat → Nat} {kinds worths : Nat → Int32} (hW : okW W worths) (hh : h ≤ 4) {says : Nat → Int32} (hs : okS K W (4 * h) says) :
    ∀ (d n i : Nat) (dealt : Nat → Int32), d = h - i → i ≤ h → d < n → okDl K W i dealt → ∃ g, okDl K W h g ∧ f_X7_layDeal_8 (nI h) kinds worths n (nI (gn K W i)) (nI i) says dealt = some (says, g) := by
  intro d
  induction d with
  | zero =>
    intro n i dealt hd hi hn hD
    have h4 : i = h := by omega
    subst h4
    obtain ⟨n, rfl⟩ : ∃ m, n = m + 1 := ⟨n - 1, by omega⟩
    exact ⟨dealt, hD, if_pos (sle (a := i) (b := i))⟩
  | succ d ih =>
    intro n i dealt hd hi hn hD
    obtain ⟨n, rfl⟩ : ∃ m, n = m + 1 := ⟨n - 1, by omega⟩
    obtain ⟨g1, g2, g3, g4⟩ := gn_ok (K := K) hW i (by omega)
    obtain ⟨g, e1, e2⟩ := ih n (i + 1) (upd dealt i (nI (dD K W i))) (by omega) (by omega) (by omega) (fun j hj => by
      by_cases q : j = i
      · subst q; exact us
      · rw [un q]; exact hD j (by omega))
    refine ⟨g, e1, ?_⟩
    refine (if_neg (snle (a := h) (b := i))).trans ?_
    exact (ldeal_in (kinds := kinds) (dealt := dealt) hW hh (show i < h by omega) g1 (pk_free hW (by omega)) hs (f_X7_layDeal_8 (nI h) kinds worths n) 4 300 0 (by omega) (by omega) (by omega)).trans e2
theorem layDeal_ok {h : Nat} {K W : Nat → Nat} {kinds worths says dealt : Nat → Int32} (hK : okK h K kinds) (hW : okW W worths) (hh : h ≤ 4) : ∃ s g, okS K W (4 * h) s ∧ okDl K W h g ∧ f_X7_layDeal (nI h) kinds worths says dealt = some (s, g) := by
  obtain ⟨s, s1, s2⟩ := laySays_ok (says := says) hK hW hh
  obtain ⟨g, g1, g2⟩ := ldeal_out (kinds := kinds) hW hh s1 h 300 0 dealt (by omega) (by omega) (by omega) (fun j hj => absurd hj (by omega))
  exact ⟨s, g, s1, g1, (bok s2).trans g2⟩
