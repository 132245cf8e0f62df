/-! ===== looking at how things lie, both sides ===== -/
def okT (h x : Nat) (f : Nat → Int32) : Prop := ∀ i, i < h → f i = nI (dg h x i)
theorem worthIn_ok {W : Nat → Nat} {worths : Nat → Int32} (hW : okW W worths) {h x i : Nat} (hh : h ≤ 4) (hx : x < 4 ^ h) (hi : i < h) : f_X1_worthIn worths (nI h) (nI x) (nI i) = some (nI (W (4 * i + dg h x i))) := by
  have hd := dg_lt h x i
  refine (bok (thing_ok hh hx hi)).trans ?_
  refine (bok (at_ok (i := i) (t := dg h x i))).trans ?_
  rw [(hW (4 * i + dg h x i) (by omega)).1]
def sm (W : Nat → Nat) (h x : Nat) : Nat → Nat
  | 0 => 0
  | i + 1 => sm W h x i + W (4 * i + dg h x i)
theorem sm_le {W : Nat → Nat} {worths : Nat → Int32} (hW : okW W worths) {h x : Nat} : ∀ i, i ≤ 4 → sm W h x i ≤ 9 * i := by
  intro i
  induction i with
  | zero => intro _; exact Nat.le_refl 0
  | succ i ih =>
    intro hi
    have hd := dg_lt h x i
    have := (hW (4 * i + dg h x i) (by omega)).2
    have := ih (by omega)
    show sm W h x i + W (4 * i + dg h x i) ≤ _
    omega
theorem sum_loop {W : Nat → Nat} {worths : Nat → Int32} (hW : okW W worths) {h x : Nat} (hh : h ≤ 4) (hx : x < 4 ^ h) :
    ∀ (d n i : Nat), d = h - i → i ≤ h → d < n → f_X1_sumOf_4 worths (nI h) n (nI x) (nI (sm W h x i)) (nI i) = some (nI (sm W h x h)) := by
  intro d
  induction d with
  | zero =>
    intro n i hd hi hn
    have h4 : i = h := by omega
    subst h4
    obtain ⟨n, rfl⟩ : ∃ m, n = m + 1 := ⟨n - 1, by omega⟩
    by_cases q : 4 ≤ i
    · exact if_pos (sle (a := 4) (b := i))
    · refine (if_neg (snle (a := 4) (b := i))).trans ?_
      exact if_pos (sle (a := i) (b := i))
  | succ d ih =>
    intro n i hd hi hn
    obtain ⟨n, rfl⟩ : ∃ m, n = m + 1 := ⟨n - 1, by omega⟩
    refine (if_neg (snle (a := 4) (b := i))).trans ?_
    refine (if_neg (snle (a := h) (b := i))).trans ?_
    refine (bok (worthIn_ok hW hh hx (by omega))).trans ?_
    rw [nI_add, nI_1]
    exact ih n (i + 1) (by omega) (by omega) (by omega)
theorem sumOf_ok {W : Nat → Nat} {worths : Nat → Int32} (hW : okW W worths) {h x : Nat} (hh : h ≤ 4) (hx : x < 4 ^ h) : f_X1_sumOf worths (nI h) (nI x) = some (nI (sm W h x h)) :=
  sum_loop hW hh hx h 300 0 (by omega) (by omega) (by omega)
theorem content_ok {W : Nat → Nat} {worths : Nat → Int32} (hW : okW W worths) {h x i : Nat} (hh : h ≤ 4) (hx : x < 4 ^ h) (hi : i < h) : f_X1_isContent worths (nI h) (nI x) (nI i) = some (if W (4 * i + dg h x i) < 5 then 0 else 1) := by
  have hd := dg_lt h x i
  have := (hW (4 * i + dg h x i) (by omega)).2
  refine (bok (worthIn_ok hW hh hx hi)).trans ?_
  by_cases c : W (4 * i + dg h x i) < 5
  · rw [if_pos c]
    exact if_pos (slt (a := W (4 * i + dg h x i)) (b := 5))
  · rw [if_neg c]
    exact if_neg (snlt (a := W (4 * i + dg h x i)) (b := 5))
def cn (W : Nat → Nat) (h x : Nat) : Nat → Nat
  | 0 => 0
  | i + 1 => if W (4 * i + dg h x i) < 5 then cn W h x i else cn W h x i + 1
theorem content_loop {W : Nat → Nat} {worths : Nat → Int32} (hW : okW W worths) {h x : Nat} (hh : h ≤ 4) (hx : x < 4 ^ h) :
    ∀ (d n i : Nat), d = h - i → i ≤ h → d < n → f_X1_contentIn_4 worths (nI h) n (nI x) (nI (cn W h x i)) (nI i) = some (nI (cn W h x h)) := by
  intro d
  induction d with
  | zero =>
    intro n i hd hi hn
    have h4 : i = h := by omega
    subst h4
    obtain ⟨n, rfl⟩ : ∃ m, n = m + 1 := ⟨n - 1, by omega⟩
    by_cases q : 4 ≤ i
    · exact if_pos (sle (a := 4) (b := i))
    · refine (if_neg (snle (a := 4) (b := i))).trans ?_
      exact if_pos (sle (a := i) (b := i))
  | succ d ih =>
    intro n i hd hi hn
    obtain ⟨n, rfl⟩ : ∃ m, n = m + 1 := ⟨n - 1, by omega⟩
    have hr := ih n (i + 1) (by omega) (by omega) (by omega)
    rw [show cn W h x (i + 1) = if W (4 * i + dg h x i) < 5 then cn W h x i else cn W h x i + 1 from rfl] at hr
    refine (if_neg (snle (a := 4) (b := i))).trans ?_
    refine (if_neg (snle (a := h) (b := i))).trans ?_
    refine (bok (content_ok hW hh hx (by omega))).trans ?_
    by_cases c : W (4 * i + dg h x i) < 5
    · rw [if_pos c] at hr ⊢
      refine (if_pos rfl).trans ?_
      rw [nI_1]
      exact hr
    · rw [if_neg c] at hr ⊢
      refine (if_neg (by decide)).trans ?_
      rw [nI_1, nI_1]
      exact hr
theorem contentIn_ok {W : Nat → Nat} {worths : Nat → Int32} (hW : okW W worths) {h x : Nat} (hh : h ≤ 4) (hx : x < 4 ^ h) : f_X1_contentIn worths (nI h) (nI x) = some (nI (cn W h x h)) :=
  content_loop hW hh hx h 300 0 (by omega) (by omega) (by omega)
/-! the reference -/
theorem mcontent_ok {W : Nat → Nat} {worths things : Nat → Int32} (hW : okW W worths) {h x i : Nat} (hh : h ≤ 4) (hT : okT h x things) (hi : i < h) : f_X7_isContent worths things (nI i) = some (if W (4 * i + dg h x i) < 5 then 0 else 1) := by
  have hd := dg_lt h x i
  have := (hW (4 * i + dg h x i) (by omega)).2
  refine (bok (rd_ok (i := i))).trans ?_
  rw [hT i hi, t4n]
  refine (bok (rd_ok (i := 4 * i + dg h x i))).trans ?_
  rw [(hW (4 * i + dg h x i) (by omega)).1]
  by_cases c : W (4 * i + dg h x i) < 5
  · rw [if_pos c]
    exact if_pos (slt (a := W (4 * i + dg h x i)) (b := 5))
  · rw [if_neg c]
    exact if_neg (snlt (a := W (4 * i + dg h x i)) (b := 5))
theorem mcontent_loop {W : Nat → Nat} {worths things : Nat → Int32} (hW : okW W worths) {h x : Nat} (hh : h ≤ 4) (hT : okT h x things) :
    ∀ (d n i : Nat), d = h - i → i ≤ h → d < n → f_X7_contentMany_4 (nI h) worths things n (nI (cn W h x i)) (nI i) = some (nI (cn W h x h)) := by
  intro d
  induction d with
  | zero =>
    intro n i hd hi hn
    have h4 : i = h := by omega
    subst h4
    obtain ⟨n, rfl⟩ : ∃ m, n = m + 1 := ⟨n - 1, by omega⟩
    exact if_pos (sle (a := i) (b := i))
  | succ d ih =>
    intro n i hd hi hn
    obtain ⟨n, rfl⟩ : ∃ m, n = m + 1 := ⟨n - 1, by omega⟩
    have hr := ih n (i + 1) (by omega) (by omega) (by omega)
    rw [show cn W h x (i + 1) = if W (4 * i + dg h x i) < 5 then cn W h x i else cn W h x i + 1 from rfl] at hr
    refine (if_neg (snle (a := h) (b := i))).trans ?_
    refine (bok (mcontent_ok hW hh hT (by omega))).trans ?_
    by_cases c : W (4 * i + dg h x i) < 5
    · rw [if_pos c] at hr ⊢
      refine (if_pos rfl).trans ?_
      show f_X7_contentMany_4 (nI h) worths things n (nI (cn W h x i) + nI 0) (nI i + 1) = _
      rw [nI_1, nI_add]
      exact hr
    · rw [if_neg c] at hr ⊢
      refine (if_neg (by decide)).trans ?_
      show f_X7_contentMany_4 (nI h) worths things n (nI (cn W h x i) + nI 1) (nI i + 1) = _
      rw [nI_1, nI_add]
      exact hr
theorem contentMany_ok {W : Nat → Nat} {worths things : Nat → Int32} (hW : okW W worths) {h x : Nat} (hh : h ≤ 4) (hT : okT h x things) : f_X7_contentMany (nI h) worths things = some (nI (cn W h x h)) :=
  mcontent_loop hW hh hT h 300 0 (by omega) (by omega) (by omega)
/-- the reference's number for how things lie: heir 0 the lowest -/
def wy (h x : Nat) : Nat → Nat
  | 0 => 0
  | i + 1 => wy h x i + dg h x i * 4 ^ i
def rv (h x : Nat) : Nat := wy h x h
set_option maxRecDepth 20000 in
theorem way_tab : ∀ i, i < 4 → ∀ d, d < 4 → ∀ y, y < 64 → y < 4 ^ i → nI y ||| (nI d <<< ((2 * nI i) &&& 31)) = nI (y + d * 4 ^ i) := by decide +kernel
set_option maxRecDepth 20000 in
theorem fig_tab : ∀ i, i < 4 → ∀ w, w < 256 → f_X7_figure (nI w) (nI i) = some (nI (w / 4 ^ i % 4)) := by decide +kernel
theorem wy_lt {h x : Nat} : ∀ i, wy h x i < 4 ^ i := by
  intro i
  induction i with
  | zero => exact Nat.one_pos
  | succ i ih =>
    have hd := dg_lt h x i
    show wy h x i + dg h x i * 4 ^ i < 4 ^ (i + 1)
    have : dg h x i * 4 ^ i ≤ 3 * 4 ^ i := Nat.mul_le_mul_right _ (by omega)
    have e : 4 ^ (i + 1) = 4 * 4 ^ i := by rw [Nat.pow_succ, Nat.mul_comm]
    omega
theorem wy_dig {h x : Nat} : ∀ i j, j < i → wy h x i / 4 ^ j % 4 = dg h x j := by
  intro i
  induction i with
  | zero => intro j hj; omega
  | succ i ih =>
    intro j hj
    have hd := dg_lt h x i
    show (wy h x i + dg h x i * 4 ^ i) / 4 ^ j % 4 = dg h x j
    by_cases e : j = i
    · subst e
      rw [Nat.add_mul_div_right _ _ (Nat.pow_pos (by decide)), Nat.div_eq_of_lt (wy_lt j), Nat.zero_add, Nat.mod_eq_of_lt hd]
    · have hlt : j < i := by omega
      rw [show i = (i - j - 1) + 1 + j by omega, Nat.pow_add, ← Nat.mul_assoc, Nat.add_mul_div_right _ _ (Nat.pow_pos (by decide)), Nat.pow_succ, ← Nat.mul_assoc, Nat.add_mul_mod_self_right, show (i - j - 1) + 1 + j = i by omega]
      exact ih j hlt
theorem rv_lt {h x : Nat} : rv h x < 4 ^ h := wy_lt h
theorem way_loop {h x : Nat} (hh : h ≤ 4) {things : Nat → Int32} (hT : okT h x things) :
    ∀ (d n i : Nat), d = h - i → i ≤ h → d < n → f_X7_wayNow_4 (nI h) things n (nI (wy h x i)) (nI i) = some (nI (rv h x)) := by
  intro d
  induction d with
  | zero =>
    intro n i hd hi hn
    have h4 : i = h := by omega
    subst h4
    obtain ⟨n, rfl⟩ : ∃ m, n = m + 1 := ⟨n - 1, by omega⟩
    exact if_pos (sle (a := i) (b := i))
  | succ d ih =>
    intro n i hd hi hn
    obtain ⟨n, rfl⟩ : ∃ m, n = m + 1 := ⟨n - 1, by omega⟩
    have hy := wy_lt (h := h) (x := x) i
    have h64 : 4 ^ i ≤ 4 ^ 3 := Nat.pow_le_pow_right (by decide) (by omega)
    refine (if_neg (snle (a := h) (b := i))).trans ?_
    refine (bok (rd_ok (i := i))).trans ?_
    rw [hT i (by omega), way_tab i (by omega) _ (dg_lt h x i) _ (Nat.lt_of_lt_of_le hy h64) hy, nI_1]
    exact ih n (i + 1) (by omega) (by omega) (by omega)
theorem wayNow_ok {h x : Nat} (hh : h ≤ 4) {things : Nat → Int32} (hT : okT h x things) : f_X7_wayNow (nI h) things = some (nI (rv h x)) :=
  way_loop hh hT h 300 0 (by omega) (by omega) (by omega)
theorem fig_ok {h x i : Nat} (hh : h ≤ 4) (hi : i < h) : f_X7_figure (nI (rv h x)) (nI i) = some (nI (dg h x i)) := by
  rw [fig_tab i (by omega) _ (Nat.lt_of_lt_of_le rv_lt (p4 hh))]
  exact congrArg (fun q => some (nI q)) (wy_dig h i hi)
theorem msum_loop {W : Nat → Nat} {worths : Nat → Int32} (hW : okW W worths) {h x : Nat} (hh : h ≤ 4) :
    ∀ (d n i : Nat), d = h - i → i ≤ h → d < n → f_X7_sumBy_4 (nI h) worths n (nI (rv h x)) (nI (sm W h x i)) (nI i) = some (nI (sm W h x h)) := by
  intro d
  induction d with
  | zero =>
    intro n i hd hi hn
    have h4 : i = h := by omega
    subst h4
    obtain ⟨n, rfl⟩ : ∃ m, n = m + 1 := ⟨n - 1, by omega⟩
    exact if_pos (sle (a := i) (b := i))
  | succ d ih =>
    intro n i hd hi hn
    obtain ⟨n, rfl⟩ : ∃ m, n = m + 1 := ⟨n - 1, by omega⟩
    have hd := dg_lt h x i
    refine (if_neg (snle (a := h) (b := i))).trans ?_
    refine (bok (fig_ok hh (by omega))).trans ?_
    rw [t4n]
    refine (bok (rd_ok (i := 4 * i + dg h x i))).trans ?_
    rw [(hW (4 * i + dg h x i) (by omega)).1, nI_add, nI_1]
    exact ih n (i + 1) (by omega) (by omega) (by omega)
theorem sumBy_ok {W : Nat → Nat} {worths : Nat → Int32} (hW : okW W worths) {h x : Nat} (hh : h ≤ 4) : f_X7_sumBy (nI h) worths (nI (rv h x)) = some (nI (sm W h x h)) :=
  msum_loop hW hh h 300 0 (by omega) (by omega) (by omega)
/-! ===== a change of two ===== -/
def alw (K W : Nat → Nat) (a ta b tb : Nat) : Prop := sd K W a tb < sd K W b tb ∧ sd K W b ta < sd K W a ta
def wsh (W : Nat → Nat) (a ta b tb : Nat) : Prop := W (4 * a + ta) < W (4 * a + tb) ∧ W (4 * b + tb) < W (4 * b + ta)
theorem alw_dec (K W : Nat → Nat) (a ta b tb : Nat) : alw K W a ta b tb ∨ ¬ alw K W a ta b tb := Classical.em _
def av (K W : Nat → Nat) (a ta b tb : Nat) : Nat := if sd K W a tb < sd K W b tb ∧ sd K W b ta < sd K W a ta then 1 else 0
def wv (W : Nat → Nat) (a ta b tb : Nat) : Nat := if W (4 * a + ta) < W (4 * a + tb) ∧ W (4 * b + tb) < W (4 * b + ta) then 1 else 0
theorem av_le (K W : Nat → Nat) (a ta b tb : Nat) : av K W a ta b tb ≤ 1 := by unfold av; split <;> omega
theorem wv_le (W : Nat → Nat) (a ta b tb : Nat) : wv W a ta b tb ≤ 1 := by unfold wv; split <;> omega
/-- what may() tells, if things lie so -/
def mv (K W : Nat → Nat) (h x a b : Nat) : Nat := 2 * av K W a (dg h x a) b (dg h x b) + wv W a (dg h x a) b (dg h x b)
theorem mv_le (K W : Nat → Nat) (h x a b : Nat) : mv K W h x a b ≤ 3 := by
  have := av_le K W a (dg h x a) b (dg h x b)
  have := wv_le W a (dg h x a) b (dg h x b)
  unfold mv; omega
theorem mayIn_tail {k0 w0 : Nat} {kinds worths : Nat → Int32} {hI : Int32} (hk : k0 ≤ 1) (hw : w0 ≤ 1) : f_X1_mayIn_120 kinds worths hI (nI k0) (nI w0) = some (nI (2 * k0 + w0)) := by
  rcases (show k0 = 0 ∨ k0 = 1 by omega) with rfl | rfl <;> rcases (show w0 = 0 ∨ w0 = 1 by omega) with rfl | rfl <;> rfl
theorem mayIn_mid {W : Nat → Nat} {kinds worths : Nat → Int32} (hW : okW W worths) {hI : Int32} {a b ta tb k0 : Nat} (ha : a < 4) (hb : b < 4) (h1 : ta < 4) (h2 : tb < 4) (hk : k0 ≤ 1) : f_X1_mayIn_55 kinds worths hI (nI a) (nI b) (nI ta) (nI tb) (nI k0) = some (nI (2 * k0 + wv W a ta b tb)) := by
  have e1 := hW (4 * a + tb) (by omega)
  have e2 := hW (4 * a + ta) (by omega)
  have e3 := hW (4 * b + ta) (by omega)
  have e4 := hW (4 * b + tb) (by omega)
  refine (bok (at_ok (i := a) (t := tb))).trans ?_
  refine (bok (at_ok (i := a) (t := ta))).trans ?_
  rw [e1.1, e2.1]
  unfold wv
  by_cases c1 : W (4 * a + ta) < W (4 * a + tb)
  · refine (if_neg (snle (a := W (4 * a + tb)) (b := W (4 * a + ta)) (by omega) (by have := e1.2; omega))).trans ?_
    refine (bok (at_ok (i := b) (t := ta))).trans ?_
    refine (bok (at_ok (i := b) (t := tb))).trans ?_
    rw [e3.1, e4.1]
    by_cases c2 : W (4 * b + tb) < W (4 * b + ta)
    · refine (if_neg (snle (a := W (4 * b + ta)) (b := W (4 * b + tb)) (by omega) (by have := e3.2; omega))).trans ?_
      rw [if_pos ⟨c1, c2⟩]
      exact mayIn_tail (w0 := 1) hk (by omega)
    · refine (if_pos (sle (a := W (4 * b + ta)) (b := W (4 * b + tb)) (by omega) (by have := e4.2; omega))).trans ?_
      rw [if_neg (fun q => c2 q.2)]
      exact mayIn_tail (w0 := 0) hk (by omega)
  · refine (if_pos (sle (a := W (4 * a + tb)) (b := W (4 * a + ta)) (by omega) (by have := e2.2; omega))).trans ?_
    rw [if_neg (fun q => c1 q.1)]
    exact mayIn_tail (w0 := 0) hk (by omega)
theorem mayIn_ok {h : Nat} {K W : Nat → Nat} {kinds worths : Nat → Int32} (hK : okK h K kinds) (hW : okW W worths) (hh : h ≤ 4) {x a b : Nat} (hx : x < 4 ^ h) (ha : a < h) (hb : b < h) : f_X1_mayIn kinds worths (nI h) (nI x) (nI a) (nI b) = some (nI (mv K W h x a b)) := by
  have d1 := dg_lt h x a
  have d2 := dg_lt h x b
  have s1 := sd_le (K := K) hW (show a < 4 by omega) d2
  have s2 := sd_le (K := K) hW (show b < 4 by omega) d2
  have s3 := sd_le (K := K) hW (show b < 4 by omega) d1
  have s4 := sd_le (K := K) hW (show a < 4 by omega) d1
  refine (bok (thing_ok hh hx ha)).trans ?_
  refine (bok (thing_ok hh hx hb)).trans ?_
  refine (bok (said_ok hK hW hh ha d2)).trans ?_
  refine (bok (said_ok hK hW hh hb d2)).trans ?_
  unfold mv av
  by_cases c1 : sd K W a (dg h x b) < sd K W b (dg h x b)
  · refine (if_neg (snle (a := sd K W b (dg h x b)) (b := sd K W a (dg h x b)))).trans ?_
    refine (bok (said_ok hK hW hh hb d1)).trans ?_
    refine (bok (said_ok hK hW hh ha d1)).trans ?_
    by_cases c2 : sd K W b (dg h x a) < sd K W a (dg h x a)
    · refine (if_neg (snle (a := sd K W a (dg h x a)) (b := sd K W b (dg h x a)))).trans ?_
      rw [if_pos ⟨c1, c2⟩]
      exact mayIn_mid (k0 := 1) hW (by omega) (by omega) d1 d2 (by omega)
    · refine (if_pos (sle (a := sd K W a (dg h x a)) (b := sd K W b (dg h x a)))).trans ?_
      rw [if_neg (fun q => c2 q.2)]
      exact mayIn_mid (k0 := 0) hW (by omega) (by omega) d1 d2 (by omega)
  · refine (if_pos (sle (a := sd K W b (dg h x b)) (b := sd K W a (dg h x b)))).trans ?_
    rw [if_neg (fun q => c1 q.1)]
    exact mayIn_mid (k0 := 0) hW (by omega) (by omega) d1 d2 (by omega)
theorem allowed_ok {h : Nat} {K W : Nat → Nat} {worths says : Nat → Int32} (hW : okW W worths) (hh : h ≤ 4) (hs : okS K W (4 * h) says) {a ta b tb : Nat} (ha : a < h) (hb : b < h) (h1 : ta < 4) (h2 : tb < 4) : f_X7_isAllowed says (nI a) (nI ta) (nI b) (nI tb) = some (nI (av K W a ta b tb)) := by
  have s1 := sd_le (K := K) hW (show a < 4 by omega) h2
  have s2 := sd_le (K := K) hW (show b < 4 by omega) h2
  have s3 := sd_le (K := K) hW (show b < 4 by omega) h1
  have s4 := sd_le (K := K) hW (show a < 4 by omega) h1
  unfold f_X7_isAllowed
  rw [t4n, t4n, t4n, t4n]
  refine (bok (rd_ok (i := 4 * a + tb))).trans ?_
  refine (bok (rd_ok (i := 4 * b + tb))).trans ?_
  rw [okS_at hs h2 (show 4 * a + tb < 4 * h by omega), okS_at hs h2 (show 4 * b + tb < 4 * h by omega)]
  unfold av
  by_cases c1 : sd K W a tb < sd K W b tb
  · refine (if_neg (snle (a := sd K W b tb) (b := sd K W a tb))).trans ?_
    refine (bok (rd_ok (i := 4 * b + ta))).trans ?_
    refine (bok (rd_ok (i := 4 * a + ta))).trans ?_
    rw [okS_at hs h1 (show 4 * b + ta < 4 * h by omega), okS_at hs h1 (show 4 * a + ta < 4 * h by omega)]
    by_cases c2 : sd K W b ta < sd K W a ta
    · refine (if_neg (snle (a := sd K W a ta) (b := sd K W b ta))).trans ?_
      rw [if_pos ⟨c1, c2⟩]
      rfl
    · refine (if_pos (sle (a := sd K W a ta) (b := sd K W b ta))).trans ?_
      rw [if_neg (fun q => c2 q.2)]
      rfl
  · refine (if_pos (sle (a := sd K W b tb) (b := sd K W a tb))).trans ?_
    rw [if_neg (fun q => c1 q.1)]
    rfl
theorem wished_ok {W : Nat → Nat} {worths : Nat → Int32} (hW : okW W worths) {a ta b tb : Nat} (ha : a < 4) (hb : b < 4) (h1 : ta < 4) (h2 : tb < 4) : f_X7_isWished worths (nI a) (nI ta) (nI b) (nI tb) = some (nI (wv W a ta b tb)) := by
  have e1 := hW (4 * a + tb) (by omega)
  have e2 := hW (4 * a + ta) (by omega)
  have e3 := hW (4 * b + ta) (by omega)
  have e4 := hW (4 * b + tb) (by omega)
  unfold f_X7_isWished
  rw [t4n, t4n, t4n, t4n]
  refine (bok (rd_ok (i := 4 * a + tb))).trans ?_
  refine (bok (rd_ok (i := 4 * a + ta))).trans ?_
  rw [e1.1, e2.1]
  unfold wv
  by_cases c1 : W (4 * a + ta) < W (4 * a + tb)
  · refine (if_neg (snle (a := W (4 * a + tb)) (b := W (4 * a + ta)) (by omega) (by have := e1.2; omega))).trans ?_
    refine (bok (rd_ok (i := 4 * b + ta))).trans ?_
    refine (bok (rd_ok (i := 4 * b + tb))).trans ?_
    rw [e3.1, e4.1]
    by_cases c2 : W (4 * b + tb) < W (4 * b + ta)
    · refine (if_neg (snle (a := W (4 * b + ta)) (b := W (4 * b + tb)) (by omega) (by have := e3.2; omega))).trans ?_
      rw [if_pos ⟨c1, c2⟩]
      rfl
    · refine (if_pos (sle (a := W (4 * b + ta)) (b := W (4 * b + tb)) (by omega) (by have := e4.2; omega))).trans ?_
      rw [if_neg (fun q => c2 q.2)]
      rfl
  · refine (if_pos (sle (a := W (4 * a + tb)) (b := W (4 * a + ta)) (by omega) (by have := e2.2; omega))).trans ?_
    rw [if_neg (fun q => c1 q.1)]
    rfl
theorem mayNow_ok {h : Nat} {K W : Nat → Nat} {kinds worths things says : Nat → Int32} (hK : okK h K kinds) (hW : okW W worths) (hh : h ≤ 4) {x a b : Nat} (hT : okT h x things) (ha : a < h) (hb : b < h) : ∃ g, f_X7_mayNow (nI h) kinds worths things says (nI a) (nI b) = some (nI (mv K W h x a b), g) := by
  obtain ⟨g, g1, g2⟩ := laySays_ok (says := says) hK hW hh
  have d1 := dg_lt h x a
  have d2 := dg_lt h x b
  refine ⟨g, ?_⟩
  refine (bok g2).trans ?_
  refine (bok (rd_ok (i := a))).trans ?_
  refine (bok (rd_ok (i := b))).trans ?_
  rw [hT a ha, hT b hb]
  refine (bok (allowed_ok hW hh g1 ha hb d1 d2)).trans ?_
  have tail : ∀ k0 : Nat, f_X7_mayNow_30 (nI h) kinds worths things (nI a) (nI b) (nI k0) g = some (nI (k0 + wv W a (dg h x a) b (dg h x b)), g) := by
    intro k0
    refine (bok (rd_ok (i := a))).trans ?_
    refine (bok (rd_ok (i := b))).trans ?_
    rw [hT a ha, hT b hb]
    refine (bok (wished_ok hW (by omega) (by omega) d1 d2)).trans ?_
    have := wv_le W a (dg h x a) b (dg h x b)
    rcases (show wv W a (dg h x a) b (dg h x b) = 0 ∨ wv W a (dg h x a) b (dg h x b) = 1 by omega) with e | e
    · rw [e]
      refine (if_pos rfl).trans ?_
      show some (nI k0 + nI 0, g) = _
      rw [nI_add]
    · rw [e]
      refine (if_neg (by decide)).trans ?_
      show some (nI k0 + nI 1, g) = _
      rw [nI_add]
  have := av_le K W a (dg h x a) b (dg h x b)
  unfold mv
  rcases (show av K W a (dg h x a) b (dg h x b) = 0 ∨ av K W a (dg h x a) b (dg h x b) = 1 by omega) with e | e
  · rw [e]
    refine (if_pos rfl).trans ?_
    exact tail 0
  · rw [e]
    refine (if_neg (by decide)).trans ?_
    exact tail 2
