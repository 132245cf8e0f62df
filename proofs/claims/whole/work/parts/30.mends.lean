/-! ===== the ends of changing, the reference's way: ways made better round by round ===== -/
def mIv (K W : Nat → Nat) (h x0 : Nat) (far : Nat → Int32) : Prop := ∀ w, w < 256 → far w = -1 ∨ ∃ k x, far w = nI k ∧ w = rv h x ∧ Pt K W h x0 k x
def mCv (h : Nat) (far : Nat → Int32) (k y : Nat) : Prop := ∃ j, j ≤ k ∧ j ≤ 18 ∧ far (rv h y) = nI j
def mMo (h : Nat) (far far' : Nat → Int32) : Prop := ∀ k y, mCv h far k y → mCv h far' k y
def mCl (K W : Nat → Nat) (h : Nat) (far : Nat → Int32) : Prop := ∀ x y k, okX h x → Eg K W h x y → mCv h far k x → mCv h far (k + 1) y
theorem dvI_ok {x d : Nat} (hx : x < 2147483648) (hd : 0 < d) (hd2 : d < 2147483648) : dvI (nI x) (nI d) = some (nI (x / d)) := by
  unfold dvI
  rw [if_neg (nI_ne0 hd (by omega)), pk_div (by omega) hd (by omega)]
set_option maxRecDepth 100000 in
theorem then_tab : ∀ k, k < 80 → k / 4 % 4 < k % 4 → k % 4 < k / 16 → ∀ x, x < 256 → x < 4 ^ (k / 16) → ((nI (rv (k / 16) x) ^^^ ((nI (dg (k / 16) x (k / 4 % 4)) ^^^ nI (dg (k / 16) x (k % 4))) <<< ((2 * nI (k / 4 % 4)) &&& 31))) ^^^ ((nI (dg (k / 16) x (k / 4 % 4)) ^^^ nI (dg (k / 16) x (k % 4))) <<< ((2 * nI (k % 4)) &&& 31))) = nI (rv (k / 16) (swp (k / 16) x (k / 4 % 4) (k % 4))) := by decide +kernel
theorem then_ok {h x a b : Nat} (hh : h ≤ 4) (hx : x < 4 ^ h) (hab : a < b) (hb : b < h) : ((nI (rv h x) ^^^ ((nI (dg h x a) ^^^ nI (dg h x b)) <<< ((2 * nI a) &&& 31))) ^^^ ((nI (dg h x a) ^^^ nI (dg h x b)) <<< ((2 * nI b) &&& 31))) = nI (rv h (swp h x a b)) := by
  have e1 : (16 * h + 4 * a + b) / 16 = h := by omega
  have e2a : (16 * h + 4 * a + b) / 4 = 4 * h + a := by omega
  have e2 : (16 * h + 4 * a + b) / 4 % 4 = a := by rw [e2a]; omega
  have e3 : (16 * h + 4 * a + b) % 4 = b := by omega
  have := then_tab (16 * h + 4 * a + b) (by omega) (by omega) (by omega) x (Nat.lt_of_lt_of_le hx (p4 hh)) (by rw [e1]; exact hx)
  rw [e1, e2, e3] at this
  exact this
theorem upd_same {f : Nat → Int32} {i : Nat} : upd f i (f i) = f := by
  funext j
  by_cases c : j = i
  · subst c; exact us
  · exact un c
theorem rv_256 {h x : Nat} (hh : h ≤ 4) : rv h x < 256 := Nat.lt_of_lt_of_le rv_lt (p4 hh)
theorem rv_in {h x y : Nat} (hh : h ≤ 4) (hx : x < 4 ^ h) (hy : y < 4 ^ h) (e : rv h x = rv h y) : x = y := by
  rw [← rv_rv hh hx, e, rv_rv hh hy]
theorem nI_ij {a b : Nat} (ha : a < 2147483648) (hb : b < 2147483648) (e : nI a = nI b) : a = b := (nI_eq ha hb).mp e
theorem relax {K W : Nat → Nat} {worths0 : Nat → Int32} {h x0 : Nat} (hW : okW W worths0) (hh : h ≤ 4) (h0 : okX h x0) {far : Nat → Int32} (hi : mIv K W h x0 far) {x a b j : Nat} (hf : far (rv h x) = nI j) (hp : Pt K W h x0 j x) (he : Ed K W h x a b) (hI : Int32) (worths says : Nat → Int32) (back : Int32 → Int32 → Int32 → (Nat → Int32) → Option (Int32 × (Nat → Int32))) (x2 x3 : Int32) :
    ∃ far', mIv K W h x0 far' ∧ mMo h far far' ∧ mCv h far' (j + 1) (swp h x a b) ∧ (mCv h far (j + 1) (swp h x a b) → far' = far) ∧
    (rd far 256 (nI (rv h x))).bind (fun v15 => (rd far 256 (nI (rv h (swp h x a b)))).bind (fun v16 => (if v16 = (-1) then f_X7_goChanges_150 hI worths says back (nI (rv h x)) x2 x3 (v15 + 1) (nI (rv h (swp h x a b))) far else (rd far 256 (nI (rv h (swp h x a b)))).bind (fun v18 => (if v18 ≤ (v15 + 1) then (rd far 256 (nI (rv h (swp h x a b)))).bind (fun v20 => f_X7_goChanges_162 hI worths says back (nI (rv h x)) x2 x3 v20 (nI (rv h (swp h x a b))) far) else f_X7_goChanges_150 hI worths says back (nI (rv h x)) x2 x3 (v15 + 1) (nI (rv h (swp h x a b))) far))))) = back (nI (rv h x)) (x2 + 1) (x3 + 1) far' := by
  have hxo := Pt_ok hh h0 j x hp
  have hy : Pt K W h x0 (j + 1) (swp h x a b) := ⟨x, hp, a, b, he, rfl⟩
  have hyo := Pt_ok hh h0 _ _ hy
  have hj := Pt_le hW hh h0 hy
  have r1 := rv_256 (x := x) hh
  have r2 := rv_256 (x := swp h x a b) hh
  have hup : mIv K W h x0 (upd far (rv h (swp h x a b)) (nI (j + 1))) := fun w hw => by
    by_cases c : w = rv h (swp h x a b)
    · rw [c, us]; exact Or.inr ⟨j + 1, swp h x a b, rfl, rfl, hy⟩
    · rw [un c]; exact hi w hw
  have hcv : mCv h (upd far (rv h (swp h x a b)) (nI (j + 1))) (j + 1) (swp h x a b) := ⟨j + 1, Nat.le_refl _, hj, us⟩
  rcases hi (rv h (swp h x a b)) r2 with c | ⟨q, y', c, c2, c3⟩
  · refine ⟨upd far (rv h (swp h x a b)) (nI (j + 1)), hup, fun k z hz => ?_, hcv, fun hz => ?_, ?_⟩
    · obtain ⟨i, i1, i2, i3⟩ := hz
      by_cases cz : rv h z = rv h (swp h x a b)
      · rw [cz, c] at i3
        exact absurd i3.symm (nm1 i (by omega))
      · exact ⟨i, i1, i2, by rw [un cz]; exact i3⟩
    · obtain ⟨i, i1, i2, i3⟩ := hz
      rw [c] at i3
      exact absurd i3.symm (nm1 i (by omega))
    · refine (bok (rd_ok (i := rv h x))).trans ?_
      refine (bok (rd_ok (i := rv h (swp h x a b)))).trans ?_
      refine (if_pos c).trans ?_
      rw [hf, nI_1]
      exact (bok (wr_ok (i := rv h (swp h x a b)))).trans rfl
  · have hq := Pt_le hW hh h0 c3
    by_cases d : q ≤ j + 1
    · refine ⟨far, hi, fun k z hz => hz, ⟨q, d, hq, c⟩, fun _ => rfl, ?_⟩
      refine (bok (rd_ok (i := rv h x))).trans ?_
      refine (bok (rd_ok (i := rv h (swp h x a b)))).trans ?_
      refine (if_neg (by rw [c]; exact nm1 q (by omega))).trans ?_
      refine (bok (rd_ok (i := rv h (swp h x a b)))).trans ?_
      refine (if_pos (by rw [hf, c, nI_1]; exact sle d)).trans ?_
      refine (bok (rd_ok (i := rv h (swp h x a b)))).trans ?_
      refine (bok (wr_ok (i := rv h (swp h x a b)))).trans ?_
      rw [upd_same]
    · refine ⟨upd far (rv h (swp h x a b)) (nI (j + 1)), hup, fun k z hz => ?_, hcv, fun hz => ?_, ?_⟩
      · obtain ⟨i, i1, i2, i3⟩ := hz
        by_cases cz : rv h z = rv h (swp h x a b)
        · rw [cz, c] at i3
          have := nI_ij (by omega) (by omega) i3
          refine ⟨j + 1, by omega, hj, ?_⟩
          rw [cz]; exact us
        · exact ⟨i, i1, i2, by rw [un cz]; exact i3⟩
      · obtain ⟨i, i1, i2, i3⟩ := hz
        rw [c] at i3
        have := nI_ij (by omega) (by omega) i3
        omega
      · refine (bok (rd_ok (i := rv h x))).trans ?_
        refine (bok (rd_ok (i := rv h (swp h x a b)))).trans ?_
        refine (if_neg (by rw [c]; exact nm1 q (by omega))).trans ?_
        refine (bok (rd_ok (i := rv h (swp h x a b)))).trans ?_
        refine (if_neg (by rw [hf, c, nI_1]; exact snle (by omega))).trans ?_
        rw [hf, nI_1]
        exact (bok (wr_ok (i := rv h (swp h x a b)))).trans rfl
/-- what stands when the first k pairs of a way are looked at -/
def mGo (K W : Nat → Nat) (h x0 x : Nat) (far0 : Nat → Int32) (k m : Nat) (far : Nat → Int32) : Prop :=
  mIv K W h x0 far ∧ mMo h far0 far ∧ (∀ a b, h * a + b < k → Ed K W h x a b → ∀ q, mCv h far0 q x → mCv h far (q + 1) (swp h x a b)) ∧ m ≤ k ∧ ((m = 0 ∧ ∀ a b, h * a + b < k → ¬ Ed K W h x a b) ∨ (0 < m ∧ ∃ a b, Ed K W h x a b)) ∧ (mCl K W h far0 → far = far0)
theorem idx_ok {h a b k : Nat} (hb : b < h) (e : h * a + b = k) : a = k / h ∧ b = k % h := by
  subst e
  constructor
  · rw [Nat.mul_add_div (by omega), Nat.div_eq_of_lt hb, Nat.add_zero]
  · rw [Nat.mul_add_mod, Nat.mod_eq_of_lt hb]
theorem mGo_no {K W : Nat → Nat} {h x0 x k m : Nat} {far0 far : Nat → Int32} (g : mGo K W h x0 x far0 k m far) (hn : ¬ Ed K W h x (k / h) (k % h)) : mGo K W h x0 x far0 (k + 1) m far := by
  obtain ⟨g1, g2, g3, g4, g5, g6⟩ := g
  have hs : ∀ a b, h * a + b < k + 1 → Ed K W h x a b → h * a + b < k := fun a b q e => by
    by_cases c : h * a + b = k
    · obtain ⟨e1, e2⟩ := idx_ok e.2.1 c
      rw [e1, e2] at e
      exact absurd e hn
    · omega
  refine ⟨g1, g2, fun a b q e => g3 a b (hs a b q e) e, by omega, ?_, g6⟩
  rcases g5 with ⟨c1, c2⟩ | c
  · exact Or.inl ⟨c1, fun a b q e => c2 a b (hs a b q e) e⟩
  · exact Or.inr c
theorem go_loop {K W : Nat → Nat} {worths says : Nat → Int32} {h x0 x j0 : Nat} (hW : okW W worths) (hh : h ≤ 4) (h1 : 0 < h) (hs : okS K W (4 * h) says) (h0 : okX h x0) {far0 : Nat → Int32} (hf0 : far0 (rv h x) = nI j0) (hp0 : Pt K W h x0 j0 x) :
    ∀ (d f k m : Nat) (far : Nat → Int32), d = h * h - k → k ≤ h * h → d < f → mGo K W h x0 x far0 k m far → ∃ m' far', mGo K W h x0 x far0 (h * h) m' far' ∧ f_X7_goChanges_4 (nI h) worths says f (nI (rv h x)) (nI m) (nI k) far = some (nI m', far') := by
  have hxo := Pt_ok hh h0 _ _ hp0
  have hh16 : h * h ≤ 16 := Nat.mul_le_mul hh hh
  have hj18 := Pt_le hW hh h0 hp0
  have eh : nI h * nI h = nI (h * h) := pk_mul h h
  intro d
  induction d with
  | zero =>
    intro f k m far hd hk hf g
    obtain ⟨f, rfl⟩ : ∃ q, f = q + 1 := ⟨f - 1, by omega⟩
    have e : k = h * h := by omega
    subst e
    refine ⟨m, far, g, ?_⟩
    refine if_pos ?_
    rw [eh]
    exact sle (Nat.le_refl _) (by omega)
  | succ d ih =>
    intro f k m far hd hk hf g
    obtain ⟨f, rfl⟩ : ∃ q, f = q + 1 := ⟨f - 1, by omega⟩
    have hkl : k < h * h := by omega
    have ha : k / h < h := Nat.div_lt_of_lt_mul hkl
    have hb : k % h < h := Nat.mod_lt _ h1
    have pre : ∀ v, (if nI (k % h) ≤ nI (k / h) then f_X7_goChanges_4 (nI h) worths says f (nI (rv h x)) (nI m) (nI (k + 1)) far else (f_X7_isAllowed says (nI (k / h)) (nI (dg h x (k / h))) (nI (k % h)) (nI (dg h x (k % h)))).bind (fun v9 => (if v9 = 0 then f_X7_goChanges_4 (nI h) worths says f (nI (rv h x)) (nI m) (nI (k + 1)) far else (f_X7_isWished worths (nI (k / h)) (nI (dg h x (k / h))) (nI (k % h)) (nI (dg h x (k % h)))).bind (fun v12 => (if v12 = 0 then f_X7_goChanges_4 (nI h) worths says f (nI (rv h x)) (nI m) (nI (k + 1)) far else (rd far 256 (nI (rv h x))).bind (fun v15 => (rd far 256 ((nI (rv h x) ^^^ ((nI (dg h x (k / h)) ^^^ nI (dg h x (k % h))) <<< ((2 * nI (k / h)) &&& 31))) ^^^ ((nI (dg h x (k / h)) ^^^ nI (dg h x (k % h))) <<< ((2 * nI (k % h)) &&& 31)))).bind (fun v16 => (if v16 = (-1) then f_X7_goChanges_150 (nI h) worths says (f_X7_goChanges_4 (nI h) worths says f) (nI (rv h x)) (nI m) (nI k) (v15 + 1) ((nI (rv h x) ^^^ ((nI (dg h x (k / h)) ^^^ nI (dg h x (k % h))) <<< ((2 * nI (k / h)) &&& 31))) ^^^ ((nI (dg h x (k / h)) ^^^ nI (dg h x (k % h))) <<< ((2 * nI (k % h)) &&& 31))) far else (rd far 256 ((nI (rv h x) ^^^ ((nI (dg h x (k / h)) ^^^ nI (dg h x (k % h))) <<< ((2 * nI (k / h)) &&& 31))) ^^^ ((nI (dg h x (k / h)) ^^^ nI (dg h x (k % h))) <<< ((2 * nI (k % h)) &&& 31)))).bind (fun v18 => (if v18 ≤ (v15 + 1) then (rd far 256 ((nI (rv h x) ^^^ ((nI (dg h x (k / h)) ^^^ nI (dg h x (k % h))) <<< ((2 * nI (k / h)) &&& 31))) ^^^ ((nI (dg h x (k / h)) ^^^ nI (dg h x (k % h))) <<< ((2 * nI (k % h)) &&& 31)))).bind (fun v20 => f_X7_goChanges_162 (nI h) worths says (f_X7_goChanges_4 (nI h) worths says f) (nI (rv h x)) (nI m) (nI k) v20 ((nI (rv h x) ^^^ ((nI (dg h x (k / h)) ^^^ nI (dg h x (k % h))) <<< ((2 * nI (k / h)) &&& 31))) ^^^ ((nI (dg h x (k / h)) ^^^ nI (dg h x (k % h))) <<< ((2 * nI (k % h)) &&& 31))) far) else f_X7_goChanges_150 (nI h) worths says (f_X7_goChanges_4 (nI h) worths says f) (nI (rv h x)) (nI m) (nI k) (v15 + 1) ((nI (rv h x) ^^^ ((nI (dg h x (k / h)) ^^^ nI (dg h x (k % h))) <<< ((2 * nI (k / h)) &&& 31))) ^^^ ((nI (dg h x (k / h)) ^^^ nI (dg h x (k % h))) <<< ((2 * nI (k % h)) &&& 31))) far)))))))))) = v → f_X7_goChanges_4 (nI h) worths says (f + 1) (nI (rv h x)) (nI m) (nI k) far = v := fun v hv => by
      refine (if_neg (by rw [eh]; exact snle hkl (by omega))).trans ?_
      refine (bok (dvI_ok (by omega) h1 (by omega))).trans ?_
      refine (bok (rmI_ok (by omega) h1 (by omega))).trans ?_
      refine (bok (fig_ok hh ha)).trans ?_
      refine (bok (fig_ok hh hb)).trans ?_
      rw [nI_1 k]
      exact hv
    by_cases c1 : k % h ≤ k / h
    · obtain ⟨m', far', q1, q2⟩ := ih f (k + 1) m far (by omega) (by omega) (by omega) (mGo_no g (fun e => absurd e.1 (by omega)))
      exact ⟨m', far', q1, pre _ ((if_pos (sle c1)).trans q2)⟩
    · have hal := allowed_ok (says := says) hW hh hs ha hb (dg_lt h x (k / h)) (dg_lt h x (k % h))
      have hwi := wished_ok hW (show k / h < 4 by omega) (show k % h < 4 by omega) (dg_lt h x (k / h)) (dg_lt h x (k % h))
      have la := av_le K W (k / h) (dg h x (k / h)) (k % h) (dg h x (k % h))
      have lw := wv_le W (k / h) (dg h x (k / h)) (k % h) (dg h x (k % h))
      by_cases c2 : av K W (k / h) (dg h x (k / h)) (k % h) (dg h x (k % h)) = 0
      · obtain ⟨m', far', q1, q2⟩ := ih f (k + 1) m far (by omega) (by omega) (by omega) (mGo_no g (fun e => by have := (mv3.mp e.2.2).1; omega))
        refine ⟨m', far', q1, pre _ ((if_neg (snle (by omega))).trans ((bok hal).trans ?_))⟩
        exact (if_pos (by rw [c2]; rfl)).trans q2
      · by_cases c3 : wv W (k / h) (dg h x (k / h)) (k % h) (dg h x (k % h)) = 0
        · obtain ⟨m', far', q1, q2⟩ := ih f (k + 1) m far (by omega) (by omega) (by omega) (mGo_no g (fun e => by have := (mv3.mp e.2.2).2; omega))
          refine ⟨m', far', q1, pre _ ((if_neg (snle (by omega))).trans ((bok hal).trans ?_))⟩
          refine (if_neg (nI_ne0 (by omega) (by omega))).trans ((bok hwi).trans ?_)
          exact (if_pos (by rw [c3]; rfl)).trans q2
        · have he : Ed K W h x (k / h) (k % h) := ⟨by omega, hb, mv3.mpr ⟨by omega, by omega⟩⟩
          obtain ⟨g1, g2, g3, g4, g5, g6⟩ := g
          obtain ⟨j, e1, e2, e3⟩ := g2 j0 x ⟨j0, Nat.le_refl _, hj18, hf0⟩
          have hpj : Pt K W h x0 j x := by
            rcases g1 (rv h x) (rv_256 hh) with c | ⟨q, y', c, d2, d3⟩
            · rw [c] at e3; exact absurd e3.symm (nm1 j (by omega))
            · have hq := Pt_le hW hh h0 d3
              rw [c] at e3
              have e4 := nI_ij (by omega) (by omega) e3
              have e5 := rv_in hh hxo.1 (Pt_ok hh h0 _ _ d3).1 d2
              rw [← e4, e5]; exact d3
          obtain ⟨far1, r1, r2, r3, r4, r5⟩ := relax hW hh h0 g1 e3 hpj he (nI h) worths says (f_X7_goChanges_4 (nI h) worths says f) (nI m) (nI k)
          obtain ⟨m', far', q1, q2⟩ := ih f (k + 1) (m + 1) far1 (by omega) (by omega) (by omega) (show mGo K W h x0 x far0 (k + 1) (m + 1) far1 from by
            refine ⟨r1, fun q y hy => r2 q y (g2 q y hy), fun a b q e w hw => ?_, by omega, Or.inr ⟨by omega, _, _, he⟩, fun hc => ?_⟩
            · by_cases c : h * a + b = k
              · obtain ⟨i1, i2⟩ := idx_ok e.2.1 c
                rw [i1, i2]
                obtain ⟨t, t1, t2, t3⟩ := hw
                have e6 := nI_ij (by omega) (by omega) (hf0.symm.trans t3)
                obtain ⟨u, u1, u2, u3⟩ := r3
                exact ⟨u, by omega, u2, u3⟩
              · exact r2 _ _ (g3 a b (by omega) e w hw)
            · have e7 := g6 hc
              rw [r4 ?_, e7]
              have h5 := hc x (swp h x (k / h) (k % h)) j hxo ⟨_, _, he, rfl⟩ (by rw [← e7]; exact ⟨j, Nat.le_refl _, e2, e3⟩)
              rw [e7]; exact h5)
          refine ⟨m', far', q1, pre _ ((if_neg (snle (by omega))).trans ((bok hal).trans ?_))⟩
          refine (if_neg (nI_ne0 (by omega) (by omega))).trans ((bok hwi).trans ?_)
          refine (if_neg (nI_ne0 (by omega) (by omega))).trans ?_
          rw [then_ok hh hxo.1 (by omega) hb]
          refine r5.trans ?_
          rw [nI_1 m, nI_1 k]
          exact q2
/-- a way's changes, gone -/
theorem go_ok {K W : Nat → Nat} {worths says : Nat → Int32} {h x0 x j0 : Nat} (hW : okW W worths) (hh : h ≤ 4) (h1 : 0 < h) (hs : okS K W (4 * h) says) (h0 : okX h x0) {far0 : Nat → Int32} (hi : mIv K W h x0 far0) (hf0 : far0 (rv h x) = nI j0) (hp0 : Pt K W h x0 j0 x) :
    ∃ m' far', f_X7_goChanges (nI h) worths says far0 (nI (rv h x)) = some (nI m', far') ∧ mIv K W h x0 far' ∧ mMo h far0 far' ∧ (∀ y, Eg K W h x y → ∀ q, mCv h far0 q x → mCv h far' (q + 1) y) ∧ m' ≤ 16 ∧ ((m' = 0 ∧ En K W h x) ∨ (0 < m' ∧ ¬ En K W h x)) ∧ (mCl K W h far0 → far' = far0) := by
  have hh16 : h * h ≤ 16 := Nat.mul_le_mul hh hh
  have hin : ∀ a b, Ed K W h x a b → h * a + b < h * h := fun a b e => by
    obtain ⟨e1, e2, _⟩ := e
    have h2 : h * (a + 1) ≤ h * h := Nat.mul_le_mul_left h (by omega)
    rw [Nat.mul_add] at h2
    omega
  obtain ⟨m', far', ⟨g1, g2, g3, g4, g5, g6⟩, q⟩ := go_loop hW hh h1 hs h0 hf0 hp0 (h * h) 300 0 0 far0 (by omega) (by omega) (by omega) ⟨hi, fun _ _ c => c, fun a b q => absurd q (by omega), by omega, Or.inl ⟨rfl, fun a b q => absurd q (by omega)⟩, fun _ => rfl⟩
  refine ⟨m', far', q, g1, g2, fun y hy q hq => ?_, by omega, ?_, g6⟩
  · obtain ⟨a, b, e, ey⟩ := hy
    rw [ey]
    exact g3 a b (hin a b e) e q hq
  · rcases g5 with ⟨c1, c2⟩ | ⟨c1, a, b, c2⟩
    · exact Or.inl ⟨c1, fun a b e => c2 a b (hin a b e) e⟩
    · exact Or.inr ⟨c1, fun q => q a b c2⟩
