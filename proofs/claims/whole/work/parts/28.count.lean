/-! ===== the ends of changing: counting, greatest, least; ways of changing ===== -/
def Cnt (P : Nat → Prop) : Nat → Nat → Prop
  | 0, n => n = 0
  | N + 1, n => (P N ∧ ∃ m, n = m + 1 ∧ Cnt P N m) ∨ (¬ P N ∧ Cnt P N n)
theorem Cnt_s (P : Nat → Prop) (N n : Nat) : Cnt P (N + 1) n ↔ (P N ∧ ∃ m, n = m + 1 ∧ Cnt P N m) ∨ (¬ P N ∧ Cnt P N n) := Iff.rfl
theorem Cnt_le {P Q : Nat → Prop} : ∀ (N n m : Nat), Cnt P N n → Cnt Q N m → (∀ v, v < N → P v → Q v) → n ≤ m := by
  intro N
  induction N with
  | zero => intro n m h1 h2 _; have e1 : n = 0 := h1; omega
  | succ N ih =>
    intro n m h1 h2 h
    rw [Cnt_s] at h1 h2
    have hs : ∀ v, v < N → P v → Q v := fun v hv => h v (by omega)
    rcases h1 with ⟨p, n', e, q⟩ | ⟨p, q⟩
    · rcases h2 with ⟨p2, m', e2, q2⟩ | ⟨p2, q2⟩
      · have := ih n' m' q q2 hs; omega
      · exact absurd (h N (by omega) p) p2
    · rcases h2 with ⟨p2, m', e2, q2⟩ | ⟨p2, q2⟩
      · have := ih n m' q q2 hs; omega
      · exact ih n m q q2 hs
theorem Cnt_eq {P Q : Nat → Prop} {N n m : Nat} (h1 : Cnt P N n) (h2 : Cnt Q N m) (h : ∀ v, v < N → (P v ↔ Q v)) : n = m :=
  Nat.le_antisymm (Cnt_le N n m h1 h2 (fun v hv => (h v hv).mp)) (Cnt_le N m n h2 h1 (fun v hv => (h v hv).mpr))
theorem Cnt_cg {P Q : Nat → Prop} : ∀ (N n : Nat), (∀ v, v < N → (P v ↔ Q v)) → Cnt P N n → Cnt Q N n := by
  intro N
  induction N with
  | zero => intro n _ h; exact h
  | succ N ih =>
    intro n h h1
    rw [Cnt_s] at h1 ⊢
    rcases h1 with ⟨p, n', e, q⟩ | ⟨p, q⟩
    · exact Or.inl ⟨(h N (by omega)).mp p, n', e, ih n' (fun v hv => h v (by omega)) q⟩
    · exact Or.inr ⟨fun c => p ((h N (by omega)).mpr c), ih n (fun v hv => h v (by omega)) q⟩
theorem Cnt_add {P Q : Nat → Prop} {u : Nat} (hu : ¬ P u) (h : ∀ v, Q v ↔ P v ∨ v = u) : ∀ (N n : Nat), u < N → Cnt P N n → Cnt Q N (n + 1) := by
  intro N
  induction N with
  | zero => intro n hn _; omega
  | succ N ih =>
    intro n hn h1
    rw [Cnt_s] at h1 ⊢
    by_cases c : u = N
    · subst c
      rcases h1 with ⟨p, _⟩ | ⟨p, q⟩
      · exact absurd p hu
      · refine Or.inl ⟨(h u).mpr (Or.inr rfl), n, rfl, Cnt_cg u n (fun v hv => ?_) q⟩
        rw [h v]
        exact ⟨Or.inl, fun e => e.elim id (fun e => absurd e (by omega))⟩
    · rcases h1 with ⟨p, n', e, q⟩ | ⟨p, q⟩
      · exact Or.inl ⟨(h N).mpr (Or.inl p), n, rfl, by rw [e]; exact ih n' (by omega) q⟩
      · refine Or.inr ⟨fun k => ?_, ih n (by omega) q⟩
        rcases (h N).mp k with k | k
        · exact p k
        · exact c k.symm
theorem Cnt_0 {P : Nat → Prop} : ∀ N, (∀ v, v < N → ¬ P v) → Cnt P N 0 := by
  intro N
  induction N with
  | zero => intro _; rfl
  | succ N ih => intro h; exact Or.inr ⟨h N (by omega), ih (fun v hv => h v (by omega))⟩
theorem Cnt_pos {P : Nat → Prop} {N n v : Nat} (h : Cnt P N n) (hv : v < N) (hp : P v) : 0 < n := by
  have h1 : Cnt (fun k => k = v) N (0 + 1) := Cnt_add (P := fun _ => False) (u := v) (fun c => c) (fun k => ⟨Or.inr, fun e => e.elim False.elim id⟩) N 0 hv (Cnt_0 N (fun _ _ c => c))
  have := Cnt_le N 1 n h1 h (fun k _ e => by subst e; exact hp)
  omega
def cB (p : Nat → Bool) : Nat → Nat
  | 0 => 0
  | n + 1 => cB p n + (if p n = true then 1 else 0)
theorem Cnt_cB (p : Nat → Bool) : ∀ N, Cnt (fun v => p v = true) N (cB p N) := by
  intro N
  induction N with
  | zero => rfl
  | succ N ih =>
    rw [Cnt_s, show cB p (N + 1) = cB p N + (if p N = true then 1 else 0) from rfl]
    by_cases c : p N = true
    · rw [if_pos c]; exact Or.inl ⟨c, cB p N, rfl, ih⟩
    · rw [if_neg c]; exact Or.inr ⟨c, ih⟩
def isMx (P : Nat → Prop) (f : Nat → Nat) (m : Nat) : Prop := (∃ v, P v ∧ f v = m) ∧ ∀ v, P v → f v ≤ m
def isMn (P : Nat → Prop) (f : Nat → Nat) (m : Nat) : Prop := (∃ v, P v ∧ f v = m) ∧ ∀ v, P v → m ≤ f v
theorem isMx_1 {P Q : Nat → Prop} {f : Nat → Nat} {u : Nat} (h : ∀ v, ¬ P v) (hq : ∀ v, Q v ↔ P v ∨ v = u) : isMx Q f (f u) := by
  refine ⟨⟨u, (hq u).mpr (Or.inr rfl), rfl⟩, fun v hv => ?_⟩
  rcases (hq v).mp hv with c | c
  · exact absurd c (h v)
  · rw [c]; exact Nat.le_refl _
theorem isMn_1 {P Q : Nat → Prop} {f : Nat → Nat} {u : Nat} (h : ∀ v, ¬ P v) (hq : ∀ v, Q v ↔ P v ∨ v = u) : isMn Q f (f u) := by
  refine ⟨⟨u, (hq u).mpr (Or.inr rfl), rfl⟩, fun v hv => ?_⟩
  rcases (hq v).mp hv with c | c
  · exact absurd c (h v)
  · rw [c]; exact Nat.le_refl _
theorem isMx_a {P Q : Nat → Prop} {f : Nat → Nat} {u m : Nat} (h : isMx P f m) (hq : ∀ v, Q v ↔ P v ∨ v = u) : isMx Q f (if m < f u then f u else m) := by
  obtain ⟨⟨v0, p0, e0⟩, hm⟩ := h
  by_cases c : m < f u
  · rw [if_pos c]
    refine ⟨⟨u, (hq u).mpr (Or.inr rfl), rfl⟩, fun v hv => ?_⟩
    rcases (hq v).mp hv with k | k
    · have := hm v k; omega
    · rw [k]; exact Nat.le_refl _
  · rw [if_neg c]
    refine ⟨⟨v0, (hq v0).mpr (Or.inl p0), e0⟩, fun v hv => ?_⟩
    rcases (hq v).mp hv with k | k
    · exact hm v k
    · rw [k]; omega
theorem isMn_a {P Q : Nat → Prop} {f : Nat → Nat} {u m : Nat} (h : isMn P f m) (hq : ∀ v, Q v ↔ P v ∨ v = u) : isMn Q f (if f u < m then f u else m) := by
  obtain ⟨⟨v0, p0, e0⟩, hm⟩ := h
  by_cases c : f u < m
  · rw [if_pos c]
    refine ⟨⟨u, (hq u).mpr (Or.inr rfl), rfl⟩, fun v hv => ?_⟩
    rcases (hq v).mp hv with k | k
    · have := hm v k; omega
    · rw [k]; exact Nat.le_refl _
  · rw [if_neg c]
    refine ⟨⟨v0, (hq v0).mpr (Or.inl p0), e0⟩, fun v hv => ?_⟩
    rcases (hq v).mp hv with k | k
    · exact hm v k
    · rw [k]; omega
theorem isMx_cg {P Q : Nat → Prop} {f g : Nat → Nat} {m : Nat} (h : isMx P f m) (hq : ∀ v, Q v ↔ P v) (hf : ∀ v, P v → g v = f v) : isMx Q g m := by
  obtain ⟨⟨v0, p0, e0⟩, hm⟩ := h
  refine ⟨⟨v0, (hq v0).mpr p0, by rw [hf v0 p0]; exact e0⟩, fun v hv => ?_⟩
  rw [hf v ((hq v).mp hv)]
  exact hm v ((hq v).mp hv)
theorem isMn_cg {P Q : Nat → Prop} {f g : Nat → Nat} {m : Nat} (h : isMn P f m) (hq : ∀ v, Q v ↔ P v) (hf : ∀ v, P v → g v = f v) : isMn Q g m := by
  obtain ⟨⟨v0, p0, e0⟩, hm⟩ := h
  refine ⟨⟨v0, (hq v0).mpr p0, by rw [hf v0 p0]; exact e0⟩, fun v hv => ?_⟩
  rw [hf v ((hq v).mp hv)]
  exact hm v ((hq v).mp hv)
/-- two rows of things, one behind the other: what is greatest is the same -/
theorem isMx_eq {P Q : Nat → Prop} {f g : Nat → Nat} {m m' : Nat} (h : isMx P f m) (h' : isMx Q g m') (h1 : ∀ v, P v → ∃ w, Q w ∧ g w = f v) (h2 : ∀ w, Q w → ∃ v, P v ∧ g w = f v) : m = m' := by
  obtain ⟨⟨v0, p0, e0⟩, hm⟩ := h
  obtain ⟨⟨w0, q0, d0⟩, hm'⟩ := h'
  obtain ⟨w1, q1, d1⟩ := h1 v0 p0
  obtain ⟨v1, p1, e1⟩ := h2 w0 q0
  have := hm v1 p1
  have := hm' w1 q1
  omega
theorem isMn_eq {P Q : Nat → Prop} {f g : Nat → Nat} {m m' : Nat} (h : isMn P f m) (h' : isMn Q g m') (h1 : ∀ v, P v → ∃ w, Q w ∧ g w = f v) (h2 : ∀ w, Q w → ∃ v, P v ∧ g w = f v) : m = m' := by
  obtain ⟨⟨v0, p0, e0⟩, hm⟩ := h
  obtain ⟨⟨w0, q0, d0⟩, hm'⟩ := h'
  obtain ⟨w1, q1, d1⟩ := h1 v0 p0
  obtain ⟨v1, p1, e1⟩ := h2 w0 q0
  have := hm v1 p1
  have := hm' w1 q1
  omega
/-! a change of two that is allowed and wished -/
def Ed (K W : Nat → Nat) (h x a b : Nat) : Prop := a < b ∧ b < h ∧ mv K W h x a b = 3
def Eg (K W : Nat → Nat) (h x y : Nat) : Prop := ∃ a b, Ed K W h x a b ∧ y = swp h x a b
def En (K W : Nat → Nat) (h x : Nat) : Prop := ∀ a b, ¬ Ed K W h x a b
def Pt (K W : Nat → Nat) (h x0 : Nat) : Nat → Nat → Prop
  | 0, y => y = x0
  | k + 1, y => ∃ x, Pt K W h x0 k x ∧ Eg K W h x y
theorem Pt_ok {K W : Nat → Nat} {h x0 : Nat} (hh : h ≤ 4) (h0 : okX h x0) : ∀ k y, Pt K W h x0 k y → okX h y := by
  intro k
  induction k with
  | zero => intro y e; have e1 : y = x0 := e; rw [e1]; exact h0
  | succ k ih =>
    intro y e
    obtain ⟨x, p, a, b, ⟨h1, h2, h3⟩, e2⟩ := (e : ∃ x, Pt K W h x0 k x ∧ Eg K W h x y)
    rw [e2]
    exact okX_swp hh (ih x p) (by omega) h2 (by omega)
theorem mv3 {K W : Nat → Nat} {h x a b : Nat} : mv K W h x a b = 3 ↔ av K W a (dg h x a) b (dg h x b) = 1 ∧ wv W a (dg h x a) b (dg h x b) = 1 := by
  have h1 := av_le K W a (dg h x a) b (dg h x b)
  have h2 := wv_le W a (dg h x a) b (dg h x b)
  unfold mv
  omega
theorem sm_swp {W : Nat → Nat} {h x a b : Nat} (hh : h ≤ 4) (hx : okX h x) (hab : a < b) (hb : b < h) (hw : wv W a (dg h x a) b (dg h x b) = 1) : ∀ i, i ≤ h → sm W h x i + (if a < i then 1 else 0) + (if b < i then 1 else 0) ≤ sm W h (swp h x a b) i := by
  obtain ⟨_, s1, s2, s3⟩ := swp_ok hh hx.1 (show a < h by omega) hb (by omega)
  have hw2 : W (4 * a + dg h x a) < W (4 * a + dg h x b) ∧ W (4 * b + dg h x b) < W (4 * b + dg h x a) := by
    unfold wv at hw
    by_cases c : W (4 * a + dg h x a) < W (4 * a + dg h x b) ∧ W (4 * b + dg h x b) < W (4 * b + dg h x a)
    · exact c
    · rw [if_neg c] at hw; omega
  intro i
  induction i with
  | zero => intro _; rw [if_neg (by omega), if_neg (by omega)]; exact Nat.le_refl _
  | succ i ih =>
    intro hi
    have h1 := ih (by omega)
    rw [show sm W h x (i + 1) = sm W h x i + W (4 * i + dg h x i) from rfl, show sm W h (swp h x a b) (i + 1) = sm W h (swp h x a b) i + W (4 * i + dg h (swp h x a b) i) from rfl]
    by_cases ca : i = a
    · subst ca
      rw [s1]
      rw [if_neg (by omega), if_neg (by omega)] at h1
      rw [if_pos (by omega), if_neg (by omega)]
      omega
    · by_cases cb : i = b
      · subst cb
        rw [s2]
        rw [if_pos (by omega), if_neg (by omega)] at h1
        rw [if_pos (by omega), if_pos (by omega)]
        omega
      · rw [s3 i (by omega) ca cb]
        have e1 : (if a < i + 1 then 1 else 0) = (if a < i then 1 else 0) := by
          by_cases c : a < i
          · rw [if_pos c, if_pos (by omega)]
          · rw [if_neg c, if_neg (by omega)]
        have e2 : (if b < i + 1 then 1 else 0) = (if b < i then 1 else 0) := by
          by_cases c : b < i
          · rw [if_pos c, if_pos (by omega)]
          · rw [if_neg c, if_neg (by omega)]
        rw [e1, e2]
        omega
theorem Eg_sm {K W : Nat → Nat} {h x y : Nat} (hh : h ≤ 4) (hx : okX h x) (e : Eg K W h x y) : sm W h x h + 2 ≤ sm W h y h := by
  obtain ⟨a, b, ⟨h1, h2, h3⟩, rfl⟩ := e
  have := sm_swp hh hx h1 h2 (mv3.mp h3).2 h (Nat.le_refl h)
  rw [if_pos (by omega), if_pos h2] at this
  omega
theorem Pt_sm {K W : Nat → Nat} {h x0 : Nat} (hh : h ≤ 4) (h0 : okX h x0) : ∀ k y, Pt K W h x0 k y → sm W h x0 h + 2 * k ≤ sm W h y h := by
  intro k
  induction k with
  | zero => intro y e; have e1 : y = x0 := e; rw [e1]; omega
  | succ k ih =>
    intro y e
    obtain ⟨x, p, g⟩ := (e : ∃ x, Pt K W h x0 k x ∧ Eg K W h x y)
    have := ih x p
    have := Eg_sm hh (Pt_ok hh h0 k x p) g
    omega
theorem Pt_le {K W : Nat → Nat} {worths : Nat → Int32} (hW : okW W worths) {h x0 : Nat} (hh : h ≤ 4) (h0 : okX h x0) {k y : Nat} (e : Pt K W h x0 k y) : k ≤ 18 := by
  have := Pt_sm hh h0 k y e
  have := sm_le hW (h := h) (x := y) h hh
  omega
theorem En_ex {K W : Nat → Nat} {worths : Nat → Int32} (hW : okW W worths) {h x0 : Nat} (hh : h ≤ 4) (h0 : okX h x0) : ∃ k y, Pt K W h x0 k y ∧ En K W h y := by
  have main : ∀ (d k y : Nat), d = 36 - sm W h y h → Pt K W h x0 k y → ∃ k y, Pt K W h x0 k y ∧ En K W h y := by
    intro d
    induction d using Nat.strongRecOn with
    | _ d ih =>
      intro k y hd hp
      by_cases c : En K W h y
      · exact ⟨k, y, hp, c⟩
      · have hz : ∃ z, Eg K W h y z := by
          apply Classical.byContradiction
          intro q
          exact c (fun a b e => q ⟨swp h y a b, a, b, e, rfl⟩)
        obtain ⟨z, hz⟩ := hz
        have h1 := Eg_sm hh (Pt_ok hh h0 k y hp) hz
        have h2 := sm_le hW (h := h) (x := z) h hh
        exact ih (36 - sm W h z h) (by omega) (k + 1) z rfl ⟨y, hp, hz⟩
  exact main (36 - sm W h x0 h) 0 x0 rfl rfl
set_option maxRecDepth 100000 in
theorem rv_tab : ∀ h, h < 5 → ∀ x, x < 256 → x < 4 ^ h → rv h (rv h x) = x := by decide +kernel
theorem rv_rv {h x : Nat} (hh : h ≤ 4) (hx : x < 4 ^ h) : rv h (rv h x) = x := rv_tab h (by omega) x (Nat.lt_of_lt_of_le hx (p4 hh)) hx
set_option maxRecDepth 100000 in
theorem many_tab : ∀ h, h < 5 → cB (fun v => decide (v < 4 ^ h) && ptd h v) 256 ≤ 24 := by decide +kernel
theorem okX_many {h n : Nat} {P : Nat → Prop} (hh : h ≤ 4) (hP : ∀ v, P v → okX h v) (hc : Cnt P 256 n) : n ≤ 24 := by
  have h1 := Cnt_cB (fun v => decide (v < 4 ^ h) && ptd h v) 256
  have h2 := many_tab h (by omega)
  have h3 := Cnt_le 256 n _ hc h1 (fun v _ hp => by
    obtain ⟨q1, q2⟩ := hP v hp
    rw [Bool.and_eq_true, decide_eq_true_eq]
    exact ⟨q1, ptd_iff.mpr q2⟩)
  omega
