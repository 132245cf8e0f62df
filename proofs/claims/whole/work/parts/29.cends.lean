/-! ===== the ends of changing, the class's way: breadth first ===== -/
def Ls (K W : Nat → Nat) (h x0 m : Nat) (L s : Nat → Nat) (lies steps : Nat → Int32) : Prop :=
  m ≤ 24 ∧ (∀ j, j < m → lies j = nI (L j) ∧ steps j = nI (s j) ∧ Pt K W h x0 (s j) (L j)) ∧ (∀ j, j < m → ∀ i, i < j → L i ≠ L j) ∧ Cnt (fun v => ∃ j, j < m ∧ L j = v) 256 m ∧ (∀ j, j < m → ∀ i, i ≤ j → s i ≤ s j)
def Ex (m : Nat) (L s : Nat → Nat) (m' : Nat) (L' s' : Nat → Nat) : Prop := m ≤ m' ∧ ∀ j, j < m → L' j = L j ∧ s' j = s j
theorem Ex_r (m : Nat) (L s : Nat → Nat) : Ex m L s m L s := ⟨Nat.le_refl m, fun _ _ => ⟨rfl, rfl⟩⟩
theorem Ex_t {m m1 m2 : Nat} {L s L1 s1 L2 s2 : Nat → Nat} (h : Ex m L s m1 L1 s1) (h' : Ex m1 L1 s1 m2 L2 s2) : Ex m L s m2 L2 s2 :=
  ⟨Nat.le_trans h.1 h'.1, fun j hj => ⟨(h'.2 j (Nat.lt_of_lt_of_le hj h.1)).1.trans (h.2 j hj).1, (h'.2 j (Nat.lt_of_lt_of_le hj h.1)).2.trans (h.2 j hj).2⟩⟩
theorem x256 {h x : Nat} (hh : h ≤ 4) (hx : okX h x) : x < 256 := Nat.lt_of_lt_of_le hx.1 (p4 hh)
theorem reach_in {m : Nat} {L : Nat → Nat} {lies steps : Nat → Int32} (hm : m ≤ 24) (hL : ∀ j, j < m → lies j = nI (L j) ∧ L j < 256) {y j0 : Nat} (k : Int32) (hy : y < 256) (hj : j0 < m) (hj2 : L j0 = y) :
    ∀ (d f i : Nat), d = j0 - i → i ≤ j0 → d < f → f_X0_reach_2 f (nI y) k (nI i) lies steps (nI m) = some (lies, steps, nI m) := by
  intro d
  induction d with
  | zero =>
    intro f i hd hi hf
    obtain ⟨f, rfl⟩ : ∃ q, f = q + 1 := ⟨f - 1, by omega⟩
    have e : i = j0 := by omega
    subst e
    refine (if_neg (snle (a := 24) (b := i))).trans ?_
    refine (if_neg (snle (a := m) (b := i))).trans ?_
    refine (bok (get_ok (i := i))).trans ?_
    rw [(hL i hj).1, hj2]
    exact if_pos rfl
  | succ d ih =>
    intro f i hd hi hf
    obtain ⟨f, rfl⟩ : ∃ q, f = q + 1 := ⟨f - 1, by omega⟩
    refine (if_neg (snle (a := 24) (b := i))).trans ?_
    refine (if_neg (snle (a := m) (b := i))).trans ?_
    refine (bok (get_ok (i := i))).trans ?_
    rw [(hL i (by omega)).1]
    by_cases c : L i = y
    · rw [c]; exact if_pos rfl
    · have := (hL i (by omega)).2
      refine (if_neg (sne (a := L i) (b := y))).trans ?_
      rw [nI_1]
      exact ih f (i + 1) (by omega) (by omega) (by omega)
theorem reach_out {m : Nat} {L : Nat → Nat} {lies steps : Nat → Int32} (hm : m ≤ 24) (hL : ∀ j, j < m → lies j = nI (L j) ∧ L j < 256) {y : Nat} (k : Int32) (hy : y < 256) (hn : ∀ j, j < m → L j ≠ y) :
    ∀ (d f i : Nat), d = m - i → i ≤ m → d < f → f_X0_reach_2 f (nI y) k (nI i) lies steps (nI m) = f_X0_reach_35 (nI y) k lies steps (nI m) := by
  intro d
  induction d with
  | zero =>
    intro f i hd hi hf
    obtain ⟨f, rfl⟩ : ∃ q, f = q + 1 := ⟨f - 1, by omega⟩
    have e : i = m := by omega
    subst e
    by_cases c : 24 ≤ i
    · exact if_pos (sle (a := 24) (b := i))
    · exact (if_neg (snle (a := 24) (b := i))).trans (if_pos (sle (a := i) (b := i)))
  | succ d ih =>
    intro f i hd hi hf
    obtain ⟨f, rfl⟩ : ∃ q, f = q + 1 := ⟨f - 1, by omega⟩
    refine (if_neg (snle (a := 24) (b := i))).trans ?_
    refine (if_neg (snle (a := m) (b := i))).trans ?_
    refine (bok (get_ok (i := i))).trans ?_
    rw [(hL i (by omega)).1]
    have := (hL i (by omega)).2
    have := hn i (by omega)
    refine (if_neg (sne (a := L i) (b := y))).trans ?_
    rw [nI_1]
    exact ih f (i + 1) (by omega) (by omega) (by omega)
theorem reach_ok {K W : Nat → Nat} {h x0 m : Nat} {L s : Nat → Nat} {lies steps : Nat → Int32} (hh : h ≤ 4) (h0 : okX h x0) (hl : Ls K W h x0 m L s lies steps) {y k : Nat} (hy : Pt K W h x0 k y) (hk : ∀ j, j < m → s j ≤ k) :
    ∃ m' L' s' lies' steps', f_X0_reach lies steps (nI m) (nI y) (nI k) = some (lies', steps', nI m') ∧ Ls K W h x0 m' L' s' lies' steps' ∧ (∀ j, j < m' → s' j ≤ k) ∧ Ex m L s m' L' s' ∧ ∃ j, j < m' ∧ L' j = y := by
  obtain ⟨l1, l2, l3, l4, l5⟩ := hl
  have hyo := Pt_ok hh h0 k y hy
  have hL : ∀ j, j < m → lies j = nI (L j) ∧ L j < 256 := fun j hj => ⟨(l2 j hj).1, x256 hh (Pt_ok hh h0 _ _ (l2 j hj).2.2)⟩
  have hy2 := x256 hh hyo
  by_cases c : ∃ j, j < m ∧ L j = y
  · obtain ⟨j0, c1, c2⟩ := c
    exact ⟨m, L, s, lies, steps, reach_in l1 hL (nI k) hy2 c1 c2 j0 300 0 (by omega) (by omega) (by omega), ⟨l1, l2, l3, l4, l5⟩, hk, Ex_r m L s, j0, c1, c2⟩
  · have hn : ∀ j, j < m → L j ≠ y := fun j hj e => c ⟨j, hj, e⟩
    have hc : Cnt (fun v => ∃ j, j < m + 1 ∧ upK L m y j = v) 256 (m + 1) := by
      refine Cnt_add (P := fun v => ∃ j, j < m ∧ L j = v) (u := y) c (fun v => Iff.intro (fun q => ?_) (fun q => ?_)) 256 m hy2 l4
      · obtain ⟨j, j1, j2⟩ := q
        unfold upK at j2
        by_cases cj : j = m
        · rw [if_pos cj] at j2; exact Or.inr j2.symm
        · rw [if_neg cj] at j2; exact Or.inl ⟨j, by omega, j2⟩
      · rcases q with ⟨j, j1, j2⟩ | q
        · exact ⟨j, by omega, by unfold upK; rw [if_neg (by omega)]; exact j2⟩
        · exact ⟨m, by omega, by unfold upK; rw [if_pos rfl]; exact q.symm⟩
    have hm : m + 1 ≤ 24 := okX_many hh (fun v q => by
      obtain ⟨j, j1, j2⟩ := q
      unfold upK at j2
      by_cases cj : j = m
      · rw [if_pos cj] at j2; rw [← j2]; exact hyo
      · rw [if_neg cj] at j2; rw [← j2]; exact Pt_ok hh h0 _ _ (l2 j (by omega)).2.2) hc
    refine ⟨m + 1, upK L m y, upK s m k, upd lies m (nI y), upd steps m (nI k), ?_, ⟨hm, ?_, ?_, hc, ?_⟩, ?_, ⟨by omega, fun j hj => ?_⟩, m, by omega, ?_⟩
    · refine (reach_out l1 hL (nI k) hy2 hn m 300 0 (by omega) (by omega) (by omega)).trans ?_
      refine (bok (set_ok (i := m))).trans ?_
      refine (bok (set_ok (i := m))).trans ?_
      rw [nI_1]
    · intro j hj
      unfold upK
      by_cases cj : j = m
      · subst cj
        rw [us, us, if_pos rfl, if_pos rfl]
        exact ⟨rfl, rfl, hy⟩
      · rw [un cj, un cj, if_neg cj, if_neg cj]
        exact l2 j (by omega)
    · intro j hj i hi
      unfold upK
      rw [if_neg (show ¬ i = m by omega)]
      by_cases cj : j = m
      · rw [if_pos cj]; exact hn i (by omega)
      · rw [if_neg cj]; exact l3 j (by omega) i hi
    · intro j hj i hi
      unfold upK
      by_cases cj : j = m
      · rw [if_pos cj]
        by_cases ci : i = m
        · rw [if_pos ci]; exact Nat.le_refl k
        · rw [if_neg ci]; exact hk i (by omega)
      · rw [if_neg cj, if_neg (by omega)]
        exact l5 j (by omega) i hi
    · intro j hj
      unfold upK
      by_cases cj : j = m
      · rw [if_pos cj]; exact Nat.le_refl k
      · rw [if_neg cj]; exact hk j (by omega)
    · unfold upK
      rw [if_neg (by omega), if_neg (by omega)]
      exact ⟨rfl, rfl⟩
    · unfold upK
      rw [if_pos rfl]
/-- what stands when the pairs Q are looked at -/
def Gs (K W : Nat → Nat) (h x0 x k m0 : Nat) (L0 s0 : Nat → Nat) (Q : Nat → Nat → Prop) (on : Int32) (m : Nat) (L s : Nat → Nat) (lies steps : Nat → Int32) : Prop :=
  Ls K W h x0 m L s lies steps ∧ (∀ j, j < m → s j ≤ k) ∧ Ex m0 L0 s0 m L s ∧ (∀ a b, Q a b → Ed K W h x a b → ∃ j, j < m ∧ L j = swp h x a b) ∧ ((on = 0 ∧ ∀ a b, Q a b → ¬ Ed K W h x a b) ∨ (on = 1 ∧ ∃ a b, Ed K W h x a b))
theorem Gs_q {K W : Nat → Nat} {h x0 x k m0 m : Nat} {L0 s0 L s : Nat → Nat} {Q Q' : Nat → Nat → Prop} {on : Int32} {lies steps : Nat → Int32} (g : Gs K W h x0 x k m0 L0 s0 Q on m L s lies steps) (hq : ∀ a b, Q' a b → Ed K W h x a b → Q a b) : Gs K W h x0 x k m0 L0 s0 Q' on m L s lies steps := by
  obtain ⟨g1, g2, g3, g4, g5⟩ := g
  refine ⟨g1, g2, g3, fun a b q e => g4 a b (hq a b q e) e, ?_⟩
  rcases g5 with ⟨c1, c2⟩ | c
  · exact Or.inl ⟨c1, fun a b q e => c2 a b (hq a b q e) e⟩
  · exact Or.inr c
theorem goes_in {K W : Nat → Nat} {kinds worths : Nat → Int32} {h x0 x k m0 : Nat} {L0 s0 : Nat → Nat} (hK : okK h K kinds) (hW : okW W worths) (hh : h ≤ 4) (h0 : okX h x0) (hx : Pt K W h x0 k x) {a : Nat} (ha : a < h) (back : Int32 → Int32 → Int32 → Int32 → (Nat → Int32) → (Nat → Int32) → Int32 → Option (Int32 × (Nat → Int32) × (Nat → Int32) × Int32)) :
    ∀ (d f b : Nat) (on : Int32) (m : Nat) (L s : Nat → Nat) (lies steps : Nat → Int32), d = h - b → a < b → b ≤ h → d < f → Gs K W h x0 x (k + 1) m0 L0 s0 (fun a' b' => a' < a ∨ (a' = a ∧ b' < b)) on m L s lies steps →
    ∃ on' m' L' s' lies' steps', Gs K W h x0 x (k + 1) m0 L0 s0 (fun a' _ => a' < a + 1) on' m' L' s' lies' steps' ∧ f_X0_goesOn_33 kinds worths (nI h) back f (nI x) (nI (k + 1)) on (nI a) (nI b) lies steps (nI m) = back (nI x) (nI (k + 1)) on' (nI (a + 1)) lies' steps' (nI m') := by
  have hxo := Pt_ok hh h0 k x hx
  intro d
  induction d with
  | zero =>
    intro f b on m L s lies steps hd hab hb hf g
    obtain ⟨f, rfl⟩ : ∃ q, f = q + 1 := ⟨f - 1, by omega⟩
    have e : b = h := by omega
    subst e
    refine ⟨on, m, L, s, lies, steps, Gs_q g (fun a' b' q e => by have := e.1; have := e.2.1; omega), ?_⟩
    by_cases c : 4 ≤ b
    · refine (if_pos (sle (a := 4) (b := b))).trans ?_
      rw [nI_1]
    · refine (if_neg (snle (a := 4) (b := b))).trans ?_
      refine (if_pos (sle (a := b) (b := b))).trans ?_
      rw [nI_1 a]
  | succ d ih =>
    intro f b on m L s lies steps hd hab hb hf g
    obtain ⟨f, rfl⟩ : ∃ q, f = q + 1 := ⟨f - 1, by omega⟩
    have hbh : b < h := by omega
    have hm := mv_le K W h x a b
    by_cases c : mv K W h x a b = 3
    · obtain ⟨g1, g2, g3, g4, g5⟩ := g
      have hed : Ed K W h x a b := ⟨hab, hbh, c⟩
      obtain ⟨m1, L1, s1, lies1, steps1, r1, r2, r3, r4, j1, r5, r6⟩ := reach_ok hh h0 g1 (y := swp h x a b) (k := k + 1) ⟨x, hx, a, b, hed, rfl⟩ g2
      obtain ⟨on', m', L', s', lies', steps', q1, q2⟩ := ih f (b + 1) 1 m1 L1 s1 lies1 steps1 (by omega) (by omega) (by omega) (by omega) ⟨r2, r3, Ex_t g3 r4, fun a' b' q e => by
        by_cases c2 : a' = a ∧ b' = b
        · obtain ⟨ca, cb⟩ := c2
          subst ca; subst cb
          exact ⟨j1, r5, r6⟩
        · obtain ⟨j, w1, w2⟩ := g4 a' b' (by omega) e
          have := r4.1
          exact ⟨j, by omega, (r4.2 j w1).1.trans w2⟩, Or.inr ⟨rfl, a, b, hed⟩⟩
      refine ⟨on', m', L', s', lies', steps', q1, ?_⟩
      refine (if_neg (snle (a := 4) (b := b))).trans ?_
      refine (if_neg (snle (a := h) (b := b))).trans ?_
      refine (bok (mayIn_ok hK hW hh hxo.1 ha hbh)).trans ?_
      refine (if_pos (seq (b := 3) c)).trans ?_
      refine (bok (changed_ok hh hxo.1 ha hbh)).trans ?_
      refine (bok r1).trans ?_
      rw [nI_1 b]
      exact q2
    · obtain ⟨on', m', L', s', lies', steps', q1, q2⟩ := ih f (b + 1) on m L s lies steps (by omega) (by omega) (by omega) (by omega) (Gs_q g (fun a' b' q e => by
        by_cases c2 : a' = a ∧ b' = b
        · obtain ⟨ca, cb⟩ := c2
          subst ca; subst cb
          exact absurd e.2.2 c
        · omega))
      refine ⟨on', m', L', s', lies', steps', q1, ?_⟩
      refine (if_neg (snle (a := 4) (b := b))).trans ?_
      refine (if_neg (snle (a := h) (b := b))).trans ?_
      refine (bok (mayIn_ok hK hW hh hxo.1 ha hbh)).trans ?_
      refine (if_neg (sne (b := 3) c (by omega) (by omega))).trans ?_
      rw [nI_1 b]
      exact q2
theorem goes_out {K W : Nat → Nat} {kinds worths : Nat → Int32} {h x0 x k m0 : Nat} {L0 s0 : Nat → Nat} (hK : okK h K kinds) (hW : okW W worths) (hh : h ≤ 4) (h0 : okX h x0) (hx : Pt K W h x0 k x) :
    ∀ (d f a : Nat) (on : Int32) (m : Nat) (L s : Nat → Nat) (lies steps : Nat → Int32), d = h - a → a ≤ h → d < f → Gs K W h x0 x (k + 1) m0 L0 s0 (fun a' _ => a' < a) on m L s lies steps →
    ∃ on' m' L' s' lies' steps', Gs K W h x0 x (k + 1) m0 L0 s0 (fun a' _ => a' < h) on' m' L' s' lies' steps' ∧ f_X0_goesOn_12 kinds worths (nI h) f (nI x) (nI (k + 1)) on (nI a) lies steps (nI m) = some (on', lies', steps', nI m') := by
  intro d
  induction d with
  | zero =>
    intro f a on m L s lies steps hd ha hf g
    obtain ⟨f, rfl⟩ : ∃ q, f = q + 1 := ⟨f - 1, by omega⟩
    have e : a = h := by omega
    subst e
    refine ⟨on, m, L, s, lies, steps, g, ?_⟩
    have hb : bz on = some on := by
      rcases g.2.2.2.2 with ⟨c, _⟩ | ⟨c, _⟩
      · rw [c]; rfl
      · rw [c]; rfl
    by_cases c : 4 ≤ a
    · refine (if_pos (sle (a := 4) (b := a))).trans ?_
      exact (bok hb).trans rfl
    · refine (if_neg (snle (a := 4) (b := a))).trans ?_
      refine (if_pos (sle (a := a) (b := a))).trans ?_
      exact (bok hb).trans rfl
  | succ d ih =>
    intro f a on m L s lies steps hd ha hf g
    obtain ⟨f, rfl⟩ : ∃ q, f = q + 1 := ⟨f - 1, by omega⟩
    obtain ⟨on1, m1, L1, s1, lies1, steps1, q1, q2⟩ := goes_in hK hW hh h0 hx (show a < h by omega) (f_X0_goesOn_12 kinds worths (nI h) f) (h - (a + 1)) 300 (a + 1) on m L s lies steps rfl (by omega) (by omega) (by omega) (Gs_q g (fun a' b' q e => by
      have := e.1
      omega))
    obtain ⟨on', m', L', s', lies', steps', r1, r2⟩ := ih f (a + 1) on1 m1 L1 s1 lies1 steps1 (by omega) (by omega) (by omega) q1
    refine ⟨on', m', L', s', lies', steps', r1, ?_⟩
    refine (if_neg (snle (a := 4) (b := a))).trans ?_
    refine (if_neg (snle (a := h) (b := a))).trans ?_
    rw [nI_1 a]
    exact q2.trans r2
/-- all changes of one lie are reached; whether there are any -/
theorem goes_ok {K W : Nat → Nat} {kinds worths : Nat → Int32} {h x0 x k m : Nat} {L s : Nat → Nat} {lies steps : Nat → Int32} (hK : okK h K kinds) (hW : okW W worths) (hh : h ≤ 4) (h0 : okX h x0) (hx : Pt K W h x0 k x) (hl : Ls K W h x0 m L s lies steps) (hk : ∀ j, j < m → s j ≤ k + 1) :
    ∃ on' m' L' s' lies' steps', f_X0_goesOn lies steps (nI m) kinds worths (nI h) (nI x) (nI (k + 1)) = some (on', lies', steps', nI m') ∧ Ls K W h x0 m' L' s' lies' steps' ∧ (∀ j, j < m' → s' j ≤ k + 1) ∧ Ex m L s m' L' s' ∧ (∀ y, Eg K W h x y → ∃ j, j < m' ∧ L' j = y) ∧ ((on' = 0 ∧ En K W h x) ∨ (on' = 1 ∧ ¬ En K W h x)) := by
  obtain ⟨on', m', L', s', lies', steps', ⟨g1, g2, g3, g4, g5⟩, q⟩ := goes_out (L0 := L) (s0 := s) (m0 := m) hK hW hh h0 hx h 300 0 0 m L s lies steps (by omega) (by omega) (by omega) ⟨hl, hk, Ex_r m L s, fun a b q _ => absurd q (by omega), Or.inl ⟨rfl, fun a b q => absurd q (by omega)⟩⟩
  refine ⟨on', m', L', s', lies', steps', q, g1, g2, g3, fun y hy => ?_, ?_⟩
  · obtain ⟨a, b, e, ey⟩ := hy
    rw [ey]
    exact g4 a b (show a < h by have := e.1; have := e.2.1; omega) e
  · rcases g5 with ⟨c1, c2⟩ | ⟨c1, a, b, c2⟩
    · exact Or.inl ⟨c1, fun a b e => c2 a b (show a < h by have := e.1; have := e.2.1; omega) e⟩
    · exact Or.inr ⟨c1, fun q => q a b c2⟩
/-! the ends that were found -/
def Ac (K W : Nat → Nat) (h i : Nat) (L s : Nat → Nat) (n g l w : Nat) : Prop :=
  Cnt (fun v => ∃ j, j < i ∧ rv h (L j) = v ∧ En K W h (L j)) 256 n ∧ n ≤ i ∧ g ≤ 36 ∧ l ≤ 36 ∧ w ≤ 18 ∧ (n = 0 → ∀ j, j < i → ¬ En K W h (L j)) ∧ (0 < n → isMx (fun j => j < i ∧ En K W h (L j)) (fun j => sm W h (L j) h) g ∧ isMn (fun j => j < i ∧ En K W h (L j)) (fun j => sm W h (L j) h) l ∧ isMn (fun j => j < i ∧ En K W h (L j)) (fun j => s j) w)
theorem note_ok {n g l w x st : Nat} (hn : n < 100) (hg : g < 100) (hl : l < 100) (hw : w < 100) (hx : x < 100) (hst : st < 100) (gI lI wI : Int32) (hgI : 0 < n → gI = nI g ∧ lI = nI l ∧ wI = nI w) : f_X0_noteEnd (nI n) gI lI wI (nI x) (nI st) = some (nI (n + 1), nI (if n = 0 then x else if g < x then x else g), nI (if n = 0 then x else if x < l then x else l), nI (if n = 0 then st else if st < w then st else w)) := by
  by_cases c : n = 0
  · subst c
    refine (if_pos rfl).trans ?_
    refine (if_pos rfl).trans ?_
    refine (if_pos rfl).trans ?_
    rfl
  · obtain ⟨e1, e2, e3⟩ := hgI (by omega)
    subst e1; subst e2; subst e3
    have hne : ¬ nI n = 0 := nI_ne0 (by omega) (by omega)
    refine (if_neg hne).trans ?_
    refine (if_neg hne).trans ?_
    refine (if_neg hne).trans ?_
    rw [if_neg c, if_neg c, if_neg c]
    have t1 : (if nI g < nI x then nI x else nI g) = nI (if g < x then x else g) := by
      by_cases d : g < x
      · rw [if_pos d, if_pos (slt d)]
      · rw [if_neg d, if_neg (snlt (by omega))]
    have t2 : (if nI x < nI l then nI x else nI l) = nI (if x < l then x else l) := by
      by_cases d : x < l
      · rw [if_pos d, if_pos (slt d)]
      · rw [if_neg d, if_neg (snlt (by omega))]
    have t3 : (if nI st < nI w then nI st else nI w) = nI (if st < w then st else w) := by
      by_cases d : st < w
      · rw [if_pos d, if_pos (slt d)]
      · rw [if_neg d, if_neg (snlt (by omega))]
    show some ((nI n + 1), (if nI g < nI x then nI x else nI g), (if nI x < nI l then nI x else nI l), (if nI st < nI w then nI st else nI w)) = _
    rw [t1, t2, t3, nI_1]
theorem Ac_ex {K W : Nat → Nat} {h i m n g l w m' : Nat} {L s L' s' : Nat → Nat} (a : Ac K W h i L s n g l w) (hi : i ≤ m) (e : Ex m L s m' L' s') : Ac K W h i L' s' n g l w := by
  obtain ⟨a1, a2, a3, a4, a5, a6, a7⟩ := a
  have eL : ∀ j, j < i → L' j = L j := fun j hj => (e.2 j (by omega)).1
  have es : ∀ j, j < i → s' j = s j := fun j hj => (e.2 j (by omega)).2
  have hq : ∀ j, (j < i ∧ En K W h (L' j)) ↔ (j < i ∧ En K W h (L j)) := fun j => by
    constructor
    · intro q; have := q.2; rw [eL j q.1] at this; exact ⟨q.1, this⟩
    · intro q; refine ⟨q.1, ?_⟩; rw [eL j q.1]; exact q.2
  refine ⟨Cnt_cg 256 n (fun v _ => ?_) a1, a2, a3, a4, a5, fun q j hj => ?_, fun q => ?_⟩
  · constructor
    · intro q
      obtain ⟨j, j1, j2, j3⟩ := q
      refine ⟨j, j1, ?_, ?_⟩
      · rw [eL j j1]; exact j2
      · rw [eL j j1]; exact j3
    · intro q
      obtain ⟨j, j1, j2, j3⟩ := q
      rw [eL j j1] at j2 j3
      exact ⟨j, j1, j2, j3⟩
  · rw [eL j hj]; exact a6 q j hj
  · obtain ⟨b1, b2, b3⟩ := a7 q
    refine ⟨isMx_cg b1 hq (fun j q => ?_), isMn_cg b2 hq (fun j q => ?_), isMn_cg b3 hq (fun j q => ?_)⟩
    · show sm W h (L' j) h = sm W h (L j) h
      rw [eL j q.1]
    · show sm W h (L' j) h = sm W h (L j) h
      rw [eL j q.1]
    · exact es j q.1
theorem Ac_no {K W : Nat → Nat} {h i n g l w : Nat} {L s : Nat → Nat} (a : Ac K W h i L s n g l w) (hn : ¬ En K W h (L i)) : Ac K W h (i + 1) L s n g l w := by
  obtain ⟨a1, a2, a3, a4, a5, a6, a7⟩ := a
  have hq : ∀ j, (j < i + 1 ∧ En K W h (L j)) ↔ (j < i ∧ En K W h (L j)) := fun j => by
    constructor
    · intro q
      refine ⟨?_, q.2⟩
      have h1 := q.1
      have h2 : j ≠ i := fun c => hn (by rw [← c]; exact q.2)
      omega
    · intro q
      exact ⟨by have := q.1; omega, q.2⟩
  refine ⟨Cnt_cg 256 n (fun v _ => ?_) a1, by omega, a3, a4, a5, fun q j hj c => ?_, fun q => ?_⟩
  · constructor
    · intro q
      obtain ⟨j, j1, j2, j3⟩ := q
      exact ⟨j, by omega, j2, j3⟩
    · intro q
      obtain ⟨j, j1, j2, j3⟩ := q
      exact ⟨j, ((hq j).mp ⟨j1, j3⟩).1, j2, j3⟩
  · exact a6 q j ((hq j).mp ⟨hj, c⟩).1 c
  · obtain ⟨b1, b2, b3⟩ := a7 q
    exact ⟨isMx_cg b1 hq (fun j _ => rfl), isMn_cg b2 hq (fun j _ => rfl), isMn_cg b3 hq (fun j _ => rfl)⟩
theorem Ac_yes {K W : Nat → Nat} {h i n g l w : Nat} {L s : Nat → Nat} (hh : h ≤ 4) (a : Ac K W h i L s n g l w) (he : En K W h (L i)) (hd : ∀ j, j < i → L j ≠ L i) (hL : ∀ j, j ≤ i → L j < 4 ^ h) (hsm : sm W h (L i) h ≤ 36) (hst : s i ≤ 18) : Ac K W h (i + 1) L s (n + 1) (if n = 0 then sm W h (L i) h else if g < sm W h (L i) h then sm W h (L i) h else g) (if n = 0 then sm W h (L i) h else if sm W h (L i) h < l then sm W h (L i) h else l) (if n = 0 then s i else if s i < w then s i else w) := by
  obtain ⟨a1, a2, a3, a4, a5, a6, a7⟩ := a
  have hq : ∀ j, (j < i + 1 ∧ En K W h (L j)) ↔ ((j < i ∧ En K W h (L j)) ∨ j = i) := fun j => by
    constructor
    · intro q
      by_cases c : j = i
      · exact Or.inr c
      · exact Or.inl ⟨by have := q.1; omega, q.2⟩
    · intro q
      rcases q with q | q
      · exact ⟨by have := q.1; omega, q.2⟩
      · rw [q]; exact ⟨by omega, he⟩
  refine ⟨Cnt_add (P := fun v => ∃ j, j < i ∧ rv h (L j) = v ∧ En K W h (L j)) (u := rv h (L i)) (fun q => ?_) (fun v => ?_) 256 n (Nat.lt_of_lt_of_le rv_lt (p4 hh)) a1, by omega, ?_, ?_, ?_, fun q => absurd q (by omega), fun _ => ?_⟩
  · obtain ⟨j, j1, j2, j3⟩ := q
    apply hd j j1
    rw [← rv_rv hh (hL j (by omega)), j2, rv_rv hh (hL i (by omega))]
  · constructor
    · intro q
      obtain ⟨j, j1, j2, j3⟩ := q
      by_cases c : j = i
      · rw [c] at j2; exact Or.inr j2.symm
      · exact Or.inl ⟨j, by omega, j2, j3⟩
    · intro q
      rcases q with ⟨j, j1, j2, j3⟩ | q
      · exact ⟨j, by omega, j2, j3⟩
      · exact ⟨i, by omega, q.symm, he⟩
  · repeat' split
    all_goals omega
  · repeat' split
    all_goals omega
  · repeat' split
    all_goals omega
  · by_cases c : n = 0
    · rw [if_pos c, if_pos c, if_pos c]
      have h0 : ∀ j, ¬ (j < i ∧ En K W h (L j)) := fun j q => a6 c j q.1 q.2
      exact ⟨isMx_1 (f := fun j => sm W h (L j) h) h0 hq, isMn_1 (f := fun j => sm W h (L j) h) h0 hq, isMn_1 (f := fun j => s j) h0 hq⟩
    · rw [if_neg c, if_neg c, if_neg c]
      obtain ⟨b1, b2, b3⟩ := a7 (by omega)
      exact ⟨isMx_a b1 hq, isMn_a b2 hq, isMn_a b3 hq⟩
theorem seek_loop {K W : Nat → Nat} {kinds worths : Nat → Int32} {h x0 : Nat} (hK : okK h K kinds) (hW : okW W worths) (hh : h ≤ 4) (h0 : okX h x0) (lie0 : Int32) :
    ∀ (d f i m n g l w : Nat) (L s : Nat → Nat) (lies steps : Nat → Int32) (gI lI wI : Int32), d = 24 - i → i ≤ m → d < f → 0 < m → Ls K W h x0 m L s lies steps → (i < m → ∀ j, j < m → s j ≤ s i + 1) → L 0 = x0 ∧ s 0 = 0 → (∀ j, j < i → ∀ y, Eg K W h (L j) y → ∃ j', j' < m ∧ L j' = y ∧ s j' ≤ s j + 1) → Ac K W h i L s n g l w → (0 < n → gI = nI g ∧ lI = nI l ∧ wI = nI w) →
    ∃ (m' : Nat) (L' s' : Nat → Nat) (lies' steps' : Nat → Int32) (n' g' l' w' : Nat) (gI' lI' wI' : Int32), f_X0_seek_29 kinds worths lie0 (nI h) f (nI i) lies steps (nI m) (nI n) gI lI wI = some (lies', steps', nI m', nI n', gI', lI', wI') ∧ 0 < m' ∧ Ls K W h x0 m' L' s' lies' steps' ∧ (L' 0 = x0 ∧ s' 0 = 0) ∧ (∀ j, j < m' → ∀ y, Eg K W h (L' j) y → ∃ j', j' < m' ∧ L' j' = y ∧ s' j' ≤ s' j + 1) ∧ Ac K W h m' L' s' n' g' l' w' ∧ (0 < n' → gI' = nI g' ∧ lI' = nI l' ∧ wI' = nI w') := by
  intro d
  induction d with
  | zero =>
    intro f i m n g l w L s lies steps gI lI wI hd hi hf hm hl hb h00 hc ha hn
    obtain ⟨f, rfl⟩ : ∃ q, f = q + 1 := ⟨f - 1, by omega⟩
    have := hl.1
    have e : i = m := by omega
    subst e
    exact ⟨i, L, s, lies, steps, n, g, l, w, gI, lI, wI, if_pos (sle (a := 24) (b := i)), hm, hl, h00, hc, ha, hn⟩
  | succ d ih =>
    intro f i m n g l w L s lies steps gI lI wI hd hi hf hm hl hb h00 hc ha hn
    obtain ⟨f, rfl⟩ : ∃ q, f = q + 1 := ⟨f - 1, by omega⟩
    by_cases c : i = m
    · subst c
      exact ⟨i, L, s, lies, steps, n, g, l, w, gI, lI, wI, (if_neg (snle (a := 24) (b := i))).trans (if_pos (sle (a := i) (b := i))), hm, hl, h00, hc, ha, hn⟩
    · have him : i < m := by omega
      have hl2 := hl
      obtain ⟨l1, l2, l3, l4, l5⟩ := hl2
      obtain ⟨p1, p2, p3⟩ := l2 i him
      obtain ⟨on', m', L', s', lies', steps', r1, r2, r3, r4, r5, r6⟩ := goes_ok hK hW hh h0 p3 hl (hb him)
      have hr2 := r2
      obtain ⟨k1, k2, k3, k4, k5⟩ := hr2
      have hm' := r4.1
      have eL : L' i = L i := (r4.2 i him).1
      have es : s' i = s i := (r4.2 i him).2
      have hb' : i + 1 < m' → ∀ j, j < m' → s' j ≤ s' (i + 1) + 1 := fun q j hj => by
        have h1 := r3 j hj
        have h2 := k5 (i + 1) q i (by omega)
        omega
      have h00' : L' 0 = x0 ∧ s' 0 = 0 := ⟨(r4.2 0 hm).1.trans h00.1, (r4.2 0 hm).2.trans h00.2⟩
      have hc' : ∀ j, j < i + 1 → ∀ y, Eg K W h (L' j) y → ∃ j', j' < m' ∧ L' j' = y ∧ s' j' ≤ s' j + 1 := fun j hj y e => by
        by_cases cj : j = i
        · subst cj
          rw [eL] at e
          obtain ⟨j', q1, q2⟩ := r5 y e
          refine ⟨j', q1, q2, ?_⟩
          rw [es]
          exact r3 j' q1
        · rw [(r4.2 j (by omega)).1] at e
          obtain ⟨j', q1, q2, q3⟩ := hc j (by omega) y e
          refine ⟨j', by omega, ?_, ?_⟩
          · rw [(r4.2 j' q1).1]; exact q2
          · rw [(r4.2 j' q1).2, (r4.2 j (by omega)).2]; exact q3
      have ha' := Ac_ex ha hi r4
      have pre : ∀ v, (if on' = 0 then (f_X3_get 24 lies' (nI i)).bind (fun v13 => (f_X1_sumOf worths (nI h) v13).bind (fun v15 => (f_X3_get 24 steps' (nI i)).bind (fun v17 => (f_X0_noteEnd (nI n) gI lI wI v15 v17).bind (fun (g19, g20, g21, g22) => f_X0_seek_29 kinds worths lie0 (nI h) f (nI i + 1) lies' steps' (nI m') g19 g20 g21 g22)))) else f_X0_seek_29 kinds worths lie0 (nI h) f (nI i + 1) lies' steps' (nI m') (nI n) gI lI wI) = v → f_X0_seek_29 kinds worths lie0 (nI h) (f + 1) (nI i) lies steps (nI m) (nI n) gI lI wI = v := fun v hv => by
        refine (if_neg (snle (a := 24) (b := i))).trans ?_
        refine (if_neg (snle (a := m) (b := i))).trans ?_
        refine (bok (get_ok (i := i))).trans ?_
        refine (bok (get_ok (i := i))).trans ?_
        rw [p1, p2, nI_1 (s i)]
        exact (bok r1).trans hv
      rcases r6 with ⟨o1, o2⟩ | ⟨o1, o2⟩
      · have hsm : sm W h (L i) h ≤ 36 := by have := sm_le hW (h := h) (x := L i) h hh; omega
        have hst : s i ≤ 18 := Pt_le hW hh h0 p3
        have hx := Pt_ok hh h0 _ _ p3
        have hA := Ac_yes hh ha' (by rw [eL]; exact o2) (fun j hj => k3 i (by omega) j hj) (fun j hj => (Pt_ok hh h0 _ _ (k2 j (by omega)).2.2).1) (by rw [eL]; exact hsm) (by rw [es]; exact hst)
        rw [eL, es] at hA
        obtain ⟨b1, b2, b3, b4, b5, _, _⟩ := ha
        have hN := note_ok (n := n) (g := g) (l := l) (w := w) (x := sm W h (L i) h) (st := s i) (by omega) (by omega) (by omega) (by omega) (by omega) (by omega) gI lI wI hn
        obtain ⟨m2, L2, s2, lies2, steps2, n2, g2, l2, w2, gI2, lI2, wI2, q1, q2⟩ := ih f (i + 1) m' (n + 1) _ _ _ L' s' lies' steps' _ _ _ (by omega) (by omega) (by omega) (by omega) r2 hb' h00' hc' hA (fun _ => ⟨rfl, rfl, rfl⟩)
        refine ⟨m2, L2, s2, lies2, steps2, n2, g2, l2, w2, gI2, lI2, wI2, pre _ ?_, q2⟩
        refine (if_pos o1).trans ?_
        refine (bok (get_ok (i := i))).trans ?_
        rw [(k2 i (by omega)).1, eL]
        refine (bok (sumOf_ok hW hh hx.1)).trans ?_
        refine (bok (get_ok (i := i))).trans ?_
        rw [(k2 i (by omega)).2.1, es]
        refine (bok hN).trans ?_
        rw [nI_1 i]
        exact q1
      · obtain ⟨m2, L2, s2, lies2, steps2, n2, g2, l2, w2, gI2, lI2, wI2, q1, q2⟩ := ih f (i + 1) m' n g l w L' s' lies' steps' gI lI wI (by omega) (by omega) (by omega) (by omega) r2 hb' h00' hc' (Ac_no ha' (by rw [eL]; exact o2)) hn
        refine ⟨m2, L2, s2, lies2, steps2, n2, g2, l2, w2, gI2, lI2, wI2, pre _ ?_, q2⟩
        refine (if_neg (by rw [o1]; decide)).trans ?_
        rw [nI_1 i]
        exact q1
theorem seek_ok {K W : Nat → Nat} {kinds worths lies steps : Nat → Int32} {h x0 : Nat} (hK : okK h K kinds) (hW : okW W worths) (hh : h ≤ 4) (h0 : okX h x0) (r0 n0 gI lI wI : Int32) :
    ∃ (m' : Nat) (L' s' : Nat → Nat) (lies' steps' : Nat → Int32) (n' g' l' w' : Nat) (gI' lI' wI' : Int32), f_X0_seek lies steps r0 n0 gI lI wI kinds worths (nI x0) (nI h) = some (lies', steps', nI m', nI n', gI', lI', wI') ∧ 0 < m' ∧ Ls K W h x0 m' L' s' lies' steps' ∧ (L' 0 = x0 ∧ s' 0 = 0) ∧ (∀ j, j < m' → ∀ y, Eg K W h (L' j) y → ∃ j', j' < m' ∧ L' j' = y ∧ s' j' ≤ s' j + 1) ∧ Ac K W h m' L' s' n' g' l' w' ∧ (0 < n' → gI' = nI g' ∧ lI' = nI l' ∧ wI' = nI w') := by
  have hl0 : Ls K W h x0 1 (fun _ => x0) (fun _ => 0) (upd lies 0 (nI x0)) (upd steps 0 (nI 0)) := by
    refine ⟨by omega, fun j hj => ?_, fun j hj i hi => absurd hi (by omega), ?_, fun j _ i _ => Nat.le_refl _⟩
    · have e : j = 0 := by omega
      subst e
      rw [us, us]
      exact ⟨rfl, rfl, rfl⟩
    · refine Cnt_add (P := fun _ => False) (u := x0) (fun c => c) (fun v => ?_) 256 0 (x256 hh h0) (Cnt_0 256 (fun _ _ c => c))
      constructor
      · intro q; obtain ⟨j, j1, j2⟩ := q; exact Or.inr j2.symm
      · intro q; rcases q with q | q
        · exact q.elim
        · exact ⟨0, by omega, q.symm⟩
  obtain ⟨m', L', s', lies', steps', n', g', l', w', gI', lI', wI', q1, q2⟩ := seek_loop hK hW hh h0 (nI x0) 24 300 0 1 0 0 0 0 (fun _ => x0) (fun _ => 0) (upd lies 0 (nI x0)) (upd steps 0 (nI 0)) gI lI wI (by omega) (by omega) (by omega) (by omega) hl0 (fun _ j _ => Nat.zero_le _) ⟨rfl, rfl⟩ (fun j hj => absurd hj (by omega)) ⟨Cnt_0 256 (fun v _ q => by obtain ⟨j, j1, _⟩ := q; omega), by omega, by omega, by omega, by omega, fun _ j hj => absurd hj (by omega), fun q => absurd q (by omega)⟩ (fun q => absurd q (by omega))
  refine ⟨m', L', s', lies', steps', n', g', l', w', gI', lI', wI', ?_, q2⟩
  refine (bok (show f_X0_reach lies steps 0 (nI x0) 0 = some (upd lies 0 (nI x0), upd steps 0 (nI 0), nI 1) from ?_)).trans q1
  refine (reach_out (m := 0) (L := fun _ => 0) (lies := lies) (steps := steps) (by omega) (fun j hj => absurd hj (by omega)) (nI 0) (x256 hh h0) (fun j hj => absurd hj (by omega)) 0 300 0 (by omega) (by omega) (by omega)).trans ?_
  exact (bok (set_ok (i := 0))).trans ((bok (set_ok (i := 0))).trans rfl)
