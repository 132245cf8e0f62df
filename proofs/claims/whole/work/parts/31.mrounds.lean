/-! ===== the rounds of the reference, and both sides' ends ===== -/
theorem tail_ok {hI : Int32} {mk mw mt says far : Nat → Int32} {w : Nat} (hw : w < 256) (back38 : Int32 → (Nat → Int32) → (Nat → Int32) → Int32 → Int32 → Int32 → Int32 → Option ((Nat → Int32) × (Nat → Int32) × Int32 × Int32 × Int32 × Int32)) (back68 : Int32 → Int32 → (Nat → Int32) → (Nat → Int32) → Int32 → Int32 → Int32 → Int32 → Option ((Nat → Int32) × (Nat → Int32) × Int32 × Int32 × Int32 × Int32)) (x1 v8 k0 am om ol oe : Int32) :
    f_X7_layEnds_126 hI mk mw mt back38 back68 x1 (nI w) v8 k0 says far am om ol oe = back68 x1 (nI (w + 1)) says far am k0 (if ol ≤ v8 then ol else v8) (if oe ≤ far w then oe else far w) := by
  have main : ∀ k1, f_X7_layEnds_146 hI mk mw mt back38 back68 x1 (nI w) k1 says far am k0 ol oe = back68 x1 (nI (w + 1)) says far am k0 k1 (if oe ≤ far w then oe else far w) := by
    intro k1
    refine (bok (rd_ok (i := w))).trans ?_
    by_cases c : oe ≤ far w
    · refine (if_pos c).trans ?_
      rw [if_pos c]
      show back68 x1 (nI w + 1) says far am k0 k1 oe = _
      rw [nI_1]
    · refine (if_neg c).trans ?_
      rw [if_neg c]
      refine (bok (rd_ok (i := w))).trans ?_
      show back68 x1 (nI w + 1) says far am k0 k1 (far w) = _
      rw [nI_1]
  by_cases c : ol ≤ v8
  · refine (if_pos c).trans ?_
    rw [if_pos c]
    exact main ol
  · refine (if_neg c).trans ?_
    rw [if_neg c]
    exact main v8
theorem tail2_ok {hI : Int32} {mk mw mt says far : Nat → Int32} {w : Nat} (hw : w < 256) (back38 : Int32 → (Nat → Int32) → (Nat → Int32) → Int32 → Int32 → Int32 → Int32 → Option ((Nat → Int32) × (Nat → Int32) × Int32 × Int32 × Int32 × Int32)) (back68 : Int32 → Int32 → (Nat → Int32) → (Nat → Int32) → Int32 → Int32 → Int32 → Int32 → Option ((Nat → Int32) × (Nat → Int32) × Int32 × Int32 × Int32 × Int32)) (x1 v8 am om ol oe : Int32) :
    (if v8 ≤ om then f_X7_layEnds_126 hI mk mw mt back38 back68 x1 (nI w) v8 om says far am om ol oe else f_X7_layEnds_126 hI mk mw mt back38 back68 x1 (nI w) v8 v8 says far am om ol oe) = back68 x1 (nI (w + 1)) says far am (if v8 ≤ om then om else v8) (if ol ≤ v8 then ol else v8) (if oe ≤ far w then oe else far w) := by
  by_cases c : v8 ≤ om
  · rw [if_pos c, if_pos c]
    exact tail_ok hw back38 back68 x1 v8 om am om ol oe
  · rw [if_neg c, if_neg c]
    exact tail_ok hw back38 back68 x1 v8 v8 am om ol oe
theorem round_loop {K W : Nat → Nat} {worths says mk mt : Nat → Int32} {h x0 : Nat} (hW : okW W worths) (hh : h ≤ 4) (h1 : 0 < h) (hs : okS K W (4 * h) says) (h0 : okX h x0) (back : Int32 → (Nat → Int32) → (Nat → Int32) → Int32 → Int32 → Int32 → Int32 → Option ((Nat → Int32) × (Nat → Int32) × Int32 × Int32 × Int32 × Int32)) (x1 : Int32) :
    ∀ (d f w : Nat) (far : Nat → Int32) (am om ol oe : Int32), d = 256 - w → w ≤ 256 → d < f → mIv K W h x0 far → ∃ far' am' om' ol' oe', mIv K W h x0 far' ∧ mMo h far far' ∧ (∀ x y k, okX h x → w ≤ rv h x → Eg K W h x y → mCv h far k x → mCv h far' (k + 1) y) ∧ f_X7_layEnds_68 (nI h) mk worths mt back f x1 (nI w) says far am om ol oe = back (x1 + 1) says far' am' om' ol' oe' := by
  intro d
  induction d with
  | zero =>
    intro f w far am om ol oe hd hw hf hi
    obtain ⟨f, rfl⟩ : ∃ q, f = q + 1 := ⟨f - 1, by omega⟩
    have e : w = 256 := by omega
    subst e
    refine ⟨far, am, om, ol, oe, hi, fun _ _ c => c, fun x y k _ c => ?_, if_pos (sle (a := 256) (b := 256))⟩
    have := rv_256 (x := x) hh
    omega
  | succ d ih =>
    intro f w far am om ol oe hd hw hf hi
    obtain ⟨f, rfl⟩ : ∃ q, f = q + 1 := ⟨f - 1, by omega⟩
    have hw2 : w < 256 := by omega
    rcases hi w hw2 with c | ⟨k0, x, c, cx, cp⟩
    · obtain ⟨far', a', b', c', e', q1, q2, q3, q4⟩ := ih f (w + 1) far am om ol oe (by omega) (by omega) (by omega) hi
      refine ⟨far', a', b', c', e', q1, q2, fun x y k ho hx he hc => ?_, ?_⟩
      · by_cases cw : rv h x = w
        · obtain ⟨i, i1, i2, i3⟩ := hc
          rw [cw, c] at i3
          exact absurd i3.symm (nm1 i (by omega))
        · exact q3 x y k ho (by omega) he hc
      · refine (if_neg (snle (a := 256) (b := w))).trans ?_
        refine (bok (rd_ok (i := w))).trans ?_
        refine (if_pos c).trans ?_
        rw [nI_1 w]; exact q4
    · have hk := Pt_le hW hh h0 cp
      have hxo := Pt_ok hh h0 _ _ cp
      obtain ⟨m, far1, g1, g2, g3, g4, g5, g6, _⟩ := go_ok hW hh h1 hs h0 hi (show far (rv h x) = nI k0 by rw [← cx]; exact c) cp
      rw [← cx] at g1
      have pre : ∀ v, (if nI m = 0 then (f_X7_sumBy (nI h) worths (nI w)).bind (fun v8 => (if v8 ≤ om then f_X7_layEnds_126 (nI h) mk worths mt back (f_X7_layEnds_68 (nI h) mk worths mt back f) x1 (nI w) v8 om says far1 (am + 1) om ol oe else f_X7_layEnds_126 (nI h) mk worths mt back (f_X7_layEnds_68 (nI h) mk worths mt back f) x1 (nI w) v8 v8 says far1 (am + 1) om ol oe)) else f_X7_layEnds_68 (nI h) mk worths mt back f x1 (nI w + 1) says far1 am om ol oe) = v → f_X7_layEnds_68 (nI h) mk worths mt back (f + 1) x1 (nI w) says far am om ol oe = v := fun v hv => by
        refine (if_neg (snle (a := 256) (b := w))).trans ?_
        refine (bok (rd_ok (i := w))).trans ?_
        refine (if_neg (by rw [c]; exact nm1 k0 (by omega))).trans ?_
        exact (bok g1).trans hv
      have fin : ∀ far', mIv K W h x0 far' → mMo h far1 far' → (∀ x y k, okX h x → w + 1 ≤ rv h x → Eg K W h x y → mCv h far1 k x → mCv h far' (k + 1) y) → mMo h far far' ∧ (∀ x y k, okX h x → w ≤ rv h x → Eg K W h x y → mCv h far k x → mCv h far' (k + 1) y) := fun far' q1 q2 q3 => by
        refine ⟨fun k y hy => q2 k y (g3 k y hy), fun z y k ho hz he hc => ?_⟩
        by_cases cw : rv h z = w
        · have ez : z = x := rv_in hh ho.1 hxo.1 (cw.trans cx)
          subst ez
          exact q2 _ _ (g4 y he k hc)
        · exact q3 z y k ho (by omega) he (g3 k z hc)
      by_cases cm : m = 0
      · have hsum : f_X7_sumBy (nI h) worths (nI w) = some (nI (sm W h x h)) := by rw [cx]; exact sumBy_ok hW hh
        obtain ⟨far', a', b', c', e', q1, q2, q3, q4⟩ := ih f (w + 1) far1 (am + 1) (if nI (sm W h x h) ≤ om then om else nI (sm W h x h)) (if ol ≤ nI (sm W h x h) then ol else nI (sm W h x h)) (if oe ≤ far1 w then oe else far1 w) (by omega) (by omega) (by omega) g2
        obtain ⟨f1, f2⟩ := fin far' q1 q2 q3
        refine ⟨far', a', b', c', e', q1, f1, f2, pre _ ?_⟩
        refine (if_pos (by rw [cm]; rfl)).trans ?_
        refine (bok hsum).trans ?_
        exact (tail2_ok hw2 back _ x1 _ _ _ _ _).trans q4
      · obtain ⟨far', a', b', c', e', q1, q2, q3, q4⟩ := ih f (w + 1) far1 am om ol oe (by omega) (by omega) (by omega) g2
        obtain ⟨f1, f2⟩ := fin far' q1 q2 q3
        refine ⟨far', a', b', c', e', q1, f1, f2, pre _ ?_⟩
        refine (if_neg (nI_ne0 (by omega) (by omega))).trans ?_
        rw [nI_1 w]; exact q4
def mCo (K W : Nat → Nat) (h x0 : Nat) (far : Nat → Int32) (r : Nat) : Prop := ∀ k y, k ≤ r → Pt K W h x0 k y → mCv h far k y
theorem rounds_loop {K W : Nat → Nat} {worths says mk mt : Nat → Int32} {h x0 : Nat} (hW : okW W worths) (hh : h ≤ 4) (h1 : 0 < h) (hs : okS K W (4 * h) says) (h0 : okX h x0) :
    ∀ (d f r : Nat) (far : Nat → Int32) (am om ol oe : Int32), d = 35 - r → r ≤ 35 → d + 1 < f → mIv K W h x0 far → mCo K W h x0 far r → ∃ f' far' am' om' ol' oe', 1 < f' ∧ mIv K W h x0 far' ∧ mCo K W h x0 far' 35 ∧ f_X7_layEnds_38 (nI h) mk worths mt f (nI r) says far am om ol oe = f_X7_layEnds_38 (nI h) mk worths mt f' (nI 35) says far' am' om' ol' oe' := by
  intro d
  induction d with
  | zero =>
    intro f r far am om ol oe hd hr hf hi hc
    have e : r = 35 := by omega
    subst e
    exact ⟨f, far, am, om, ol, oe, by omega, hi, hc, rfl⟩
  | succ d ih =>
    intro f r far am om ol oe hd hr hf hi hc
    obtain ⟨f, rfl⟩ : ∃ q, f = q + 1 := ⟨f - 1, by omega⟩
    obtain ⟨far1, a1, b1, c1, e1, q1, q2, q3, q4⟩ := round_loop (mk := mk) (mt := mt) hW hh h1 hs h0 (f_X7_layEnds_38 (nI h) mk worths mt f) (nI r) 256 300 0 far 0 (-1) 268435456 268435456 (by omega) (by omega) (by omega) hi
    obtain ⟨f', far', a', b', c', e', r1, r2, r3, r4⟩ := ih f (r + 1) far1 a1 b1 c1 e1 (by omega) (by omega) (by omega) q1 (fun k y hk hp => by
      by_cases ck : k ≤ r
      · exact q2 k y (hc k y ck hp)
      · obtain ⟨k, rfl⟩ : ∃ q, k = q + 1 := ⟨k - 1, by omega⟩
        obtain ⟨x, px, ex⟩ := (hp : ∃ x, Pt K W h x0 k x ∧ Eg K W h x y)
        exact q3 x y k (Pt_ok hh h0 _ _ px) (Nat.zero_le _) ex (hc k x (by omega) px))
    refine ⟨f', far', a', b', c', e', r1, r2, r3, ?_⟩
    refine (if_neg (snle (a := 36) (b := r))).trans ?_
    refine q4.trans ?_
    rw [nI_1 r]; exact r4
def mPe (K W : Nat → Nat) (h : Nat) (far : Nat → Int32) (w v : Nat) : Prop := v < w ∧ far v ≠ -1 ∧ En K W h (rv h v)
def mAm (K W : Nat → Nat) (h : Nat) (far : Nat → Int32) (fN : Nat → Nat) (w n : Nat) (am om ol oe : Int32) : Prop :=
  Cnt (mPe K W h far w) 256 n ∧ n ≤ w ∧ am = nI n ∧ (n = 0 → (∀ v, ¬ mPe K W h far w v) ∧ om = -1 ∧ ol = 268435456 ∧ oe = 268435456) ∧ (0 < n → ∃ g l e, om = nI g ∧ ol = nI l ∧ oe = nI e ∧ g ≤ 36 ∧ l ≤ 36 ∧ e ≤ 18 ∧ isMx (mPe K W h far w) (fun v => sm W h (rv h v) h) g ∧ isMn (mPe K W h far w) (fun v => sm W h (rv h v) h) l ∧ isMn (mPe K W h far w) fN e)
theorem mAm_no {K W : Nat → Nat} {h w n : Nat} {far : Nat → Int32} {fN : Nat → Nat} {am om ol oe : Int32} (a : mAm K W h far fN w n am om ol oe) (hn : ¬ (far w ≠ -1 ∧ En K W h (rv h w))) : mAm K W h far fN (w + 1) n am om ol oe := by
  obtain ⟨a1, a2, a3, a4, a5⟩ := a
  have hq : ∀ v, mPe K W h far (w + 1) v ↔ mPe K W h far w v := fun v => by
    constructor
    · intro q
      refine ⟨?_, q.2⟩
      have h1 := q.1
      have h2 : v ≠ w := fun c => hn (by rw [← c]; exact q.2)
      omega
    · intro q
      exact ⟨by have := q.1; omega, q.2⟩
  refine ⟨Cnt_cg 256 n (fun v _ => (hq v).symm) a1, by omega, a3, fun q => ?_, fun q => ?_⟩
  · obtain ⟨b1, b2⟩ := a4 q
    exact ⟨fun v c => b1 v ((hq v).mp c), b2⟩
  · obtain ⟨g, l, e, b1, b2, b3, b4, b5, b6, b7, b8, b9⟩ := a5 q
    exact ⟨g, l, e, b1, b2, b3, b4, b5, b6, isMx_cg b7 hq (fun _ _ => rfl), isMn_cg b8 hq (fun _ _ => rfl), isMn_cg b9 hq (fun _ _ => rfl)⟩
theorem nle_m1 {s : Nat} (hs : s < 2147483648) : ¬ nI s ≤ -1 := fun q => by
  have h1 := Int32.le_iff_toInt_le.mp q
  rw [nI_toInt (by omega)] at h1
  have h2 : (-1 : Int32).toInt = -1 := rfl
  omega
theorem mAm_yes {K W : Nat → Nat} {h w n s : Nat} {far : Nat → Int32} {fN : Nat → Nat} {am om ol oe : Int32} (a : mAm K W h far fN w n am om ol oe) (hw : w < 256) (h1 : far w ≠ -1) (h2 : En K W h (rv h w)) (hs : s = sm W h (rv h w) h) (hs2 : s ≤ 36) (hf : far w = nI (fN w)) (hf2 : fN w ≤ 18) : mAm K W h far fN (w + 1) (n + 1) (am + 1) (if nI s ≤ om then om else nI s) (if ol ≤ nI s then ol else nI s) (if oe ≤ far w then oe else far w) := by
  obtain ⟨a1, a2, a3, a4, a5⟩ := a
  have hq : ∀ v, mPe K W h far (w + 1) v ↔ (mPe K W h far w v ∨ v = w) := fun v => by
    constructor
    · intro q
      by_cases c : v = w
      · exact Or.inr c
      · exact Or.inl ⟨by have := q.1; omega, q.2⟩
    · intro q
      rcases q with q | q
      · exact ⟨by have := q.1; omega, q.2⟩
      · rw [q]; exact ⟨by omega, h1, h2⟩
  refine ⟨Cnt_add (P := mPe K W h far w) (u := w) (fun q => absurd q.1 (by omega)) hq 256 n hw a1, by omega, by rw [a3, nI_1], fun q => absurd q (by omega), fun _ => ?_⟩
  subst hs
  rw [hf]
  by_cases c : n = 0
  · obtain ⟨b1, b2, b3, b4⟩ := a4 c
    rw [b2, b3, b4, if_neg (nle_m1 (by omega)), if_neg (show ¬ (268435456 : Int32) ≤ nI (sm W h (rv h w) h) from snle (a := 268435456)), if_neg (show ¬ (268435456 : Int32) ≤ nI (fN w) from snle (a := 268435456))]
    exact ⟨_, _, _, rfl, rfl, rfl, hs2, hs2, hf2, isMx_1 (f := fun v => sm W h (rv h v) h) b1 hq, isMn_1 (f := fun v => sm W h (rv h v) h) b1 hq, isMn_1 b1 hq⟩
  · obtain ⟨g, l, e, b1, b2, b3, b4, b5, b6, b7, b8, b9⟩ := a5 (by omega)
    have t1 : (if nI (sm W h (rv h w) h) ≤ nI g then nI g else nI (sm W h (rv h w) h)) = nI (if g < sm W h (rv h w) h then sm W h (rv h w) h else g) := by
      by_cases d : g < sm W h (rv h w) h
      · rw [if_pos d, if_neg (snle d)]
      · rw [if_neg d, if_pos (sle (by omega))]
    have t2 : (if nI l ≤ nI (sm W h (rv h w) h) then nI l else nI (sm W h (rv h w) h)) = nI (if sm W h (rv h w) h < l then sm W h (rv h w) h else l) := by
      by_cases d : sm W h (rv h w) h < l
      · rw [if_pos d, if_neg (snle d)]
      · rw [if_neg d, if_pos (sle (by omega))]
    have t3 : (if nI e ≤ nI (fN w) then nI e else nI (fN w)) = nI (if fN w < e then fN w else e) := by
      by_cases d : fN w < e
      · rw [if_pos d, if_neg (snle d)]
      · rw [if_neg d, if_pos (sle (by omega))]
    rw [b1, b2, b3, t1, t2, t3]
    refine ⟨_, _, _, rfl, rfl, rfl, ?_, ?_, ?_, isMx_a b7 hq, isMn_a b8 hq, isMn_a b9 hq⟩
    · split <;> omega
    · split <;> omega
    · split <;> omega
theorem last_loop {K W : Nat → Nat} {worths says mk mt : Nat → Int32} {h x0 : Nat} (hW : okW W worths) (hh : h ≤ 4) (h1 : 0 < h) (hs : okS K W (4 * h) says) (h0 : okX h x0) (back : Int32 → (Nat → Int32) → (Nat → Int32) → Int32 → Int32 → Int32 → Int32 → Option ((Nat → Int32) × (Nat → Int32) × Int32 × Int32 × Int32 × Int32)) (x1 : Int32) {far : Nat → Int32} {fN : Nat → Nat} (hi : mIv K W h x0 far) (hcl : mCl K W h far) (hfN : ∀ v, v < 256 → far v ≠ -1 → far v = nI (fN v) ∧ fN v ≤ 18) :
    ∀ (d f w n : Nat) (am om ol oe : Int32), d = 256 - w → w ≤ 256 → d < f → mAm K W h far fN w n am om ol oe → ∃ n' am' om' ol' oe', mAm K W h far fN 256 n' am' om' ol' oe' ∧ f_X7_layEnds_68 (nI h) mk worths mt back f x1 (nI w) says far am om ol oe = back (x1 + 1) says far am' om' ol' oe' := by
  intro d
  induction d with
  | zero =>
    intro f w n am om ol oe hd hw hf ha
    obtain ⟨f, rfl⟩ : ∃ q, f = q + 1 := ⟨f - 1, by omega⟩
    have e : w = 256 := by omega
    subst e
    exact ⟨n, am, om, ol, oe, ha, if_pos (sle (a := 256) (b := 256))⟩
  | succ d ih =>
    intro f w n am om ol oe hd hw hf ha
    obtain ⟨f, rfl⟩ : ∃ q, f = q + 1 := ⟨f - 1, by omega⟩
    have hw2 : w < 256 := by omega
    rcases hi w hw2 with c | ⟨k0, x, c, cx, cp⟩
    · obtain ⟨n', a', b', c', e', q1, q2⟩ := ih f (w + 1) n am om ol oe (by omega) (by omega) (by omega) (mAm_no ha (fun q => q.1 c))
      refine ⟨n', a', b', c', e', q1, ?_⟩
      refine (if_neg (snle (a := 256) (b := w))).trans ?_
      refine (bok (rd_ok (i := w))).trans ?_
      refine (if_pos c).trans ?_
      rw [nI_1 w]; exact q2
    · have hk := Pt_le hW hh h0 cp
      have hxo := Pt_ok hh h0 _ _ cp
      have hne : far w ≠ -1 := by rw [c]; exact nm1 k0 (by omega)
      have ex : rv h w = x := by rw [cx]; exact rv_rv hh hxo.1
      obtain ⟨m, far1, g1, _, _, _, g5, g6, g7⟩ := go_ok hW hh h1 hs h0 hi (show far (rv h x) = nI k0 by rw [← cx]; exact c) cp
      have ef := g7 hcl
      subst ef
      rw [← cx] at g1
      have pre : ∀ v, (if nI m = 0 then (f_X7_sumBy (nI h) worths (nI w)).bind (fun v8 => (if v8 ≤ om then f_X7_layEnds_126 (nI h) mk worths mt back (f_X7_layEnds_68 (nI h) mk worths mt back f) x1 (nI w) v8 om says far1 (am + 1) om ol oe else f_X7_layEnds_126 (nI h) mk worths mt back (f_X7_layEnds_68 (nI h) mk worths mt back f) x1 (nI w) v8 v8 says far1 (am + 1) om ol oe)) else f_X7_layEnds_68 (nI h) mk worths mt back f x1 (nI w + 1) says far1 am om ol oe) = v → f_X7_layEnds_68 (nI h) mk worths mt back (f + 1) x1 (nI w) says far1 am om ol oe = v := fun v hv => by
        refine (if_neg (snle (a := 256) (b := w))).trans ?_
        refine (bok (rd_ok (i := w))).trans ?_
        refine (if_neg hne).trans ?_
        exact (bok g1).trans hv
      rcases g6 with ⟨m0, m1⟩ | ⟨m0, m1⟩
      · have hsum : f_X7_sumBy (nI h) worths (nI w) = some (nI (sm W h x h)) := by rw [cx]; exact sumBy_ok hW hh
        have hs36 : sm W h x h ≤ 36 := by have := sm_le hW (h := h) (x := x) h hh; omega
        obtain ⟨y1, y2⟩ := hfN w hw2 hne
        obtain ⟨n', a', b', c', e', q1, q2⟩ := ih f (w + 1) (n + 1) (am + 1) (if nI (sm W h x h) ≤ om then om else nI (sm W h x h)) (if ol ≤ nI (sm W h x h) then ol else nI (sm W h x h)) (if oe ≤ far1 w then oe else far1 w) (by omega) (by omega) (by omega) (mAm_yes ha hw2 hne (by rw [ex]; exact m1) (by rw [ex]) hs36 y1 y2)
        refine ⟨n', a', b', c', e', q1, pre _ ?_⟩
        refine (if_pos (by rw [m0]; rfl)).trans ?_
        refine (bok hsum).trans ?_
        exact (tail2_ok hw2 back _ x1 _ _ _ _ _).trans q2
      · obtain ⟨n', a', b', c', e', q1, q2⟩ := ih f (w + 1) n am om ol oe (by omega) (by omega) (by omega) (mAm_no ha (fun q => m1 (by rw [← ex]; exact q.2)))
        refine ⟨n', a', b', c', e', q1, pre _ ?_⟩
        refine (if_neg (nI_ne0 (by omega) (by omega))).trans ?_
        rw [nI_1 w]; exact q2
theorem clear_loop {mk mw mt says : Nat → Int32} {hI : Int32} (am om ol oe : Int32) :
    ∀ (d f w : Nat) (far : Nat → Int32), d = 256 - w → w ≤ 256 → d < f → (∀ v, v < w → far v = -1) → ∃ far', (∀ v, v < 256 → far' v = -1) ∧ f_X7_layEnds_6 hI mk mw mt f (nI w) says far am om ol oe = (f_X7_wayNow hI mt).bind (fun v2 => (wr far' 256 v2 0).bind (fun g4 => f_X7_layEnds_38 hI mk mw mt 300 0 says g4 am om ol oe)) := by
  intro d
  induction d with
  | zero =>
    intro f w far hd hw hf hc
    obtain ⟨f, rfl⟩ : ∃ q, f = q + 1 := ⟨f - 1, by omega⟩
    have e : w = 256 := by omega
    subst e
    exact ⟨far, hc, if_pos (sle (a := 256) (b := 256))⟩
  | succ d ih =>
    intro f w far hd hw hf hc
    obtain ⟨f, rfl⟩ : ∃ q, f = q + 1 := ⟨f - 1, by omega⟩
    obtain ⟨far', q1, q2⟩ := ih f (w + 1) (upd far w (-1)) (by omega) (by omega) (by omega) (fun v hv => by
      by_cases c : v = w
      · rw [c]; exact us
      · rw [un c]; exact hc v (by omega))
    refine ⟨far', q1, ?_⟩
    refine (if_neg (snle (a := 256) (b := w))).trans ?_
    refine (bok (wr_ok (i := w))).trans ?_
    rw [nI_1 w]; exact q2
/-- what the reference's ends come to -/
theorem layEnds_ok {K W : Nat → Nat} {mk worths mt says far : Nat → Int32} {h x0 : Nat} (hK : okK h K mk) (hW : okW W worths) (hh : h ≤ 4) (h1 : 0 < h) (h0 : okX h x0) (hT : okT h x0 mt) (am om ol oe : Int32) :
    ∃ (says' far' : Nat → Int32) (fN : Nat → Nat) (n' : Nat) (am' om' ol' oe' : Int32), f_X7_layEnds (nI h) mk worths mt says far am om ol oe = some (says', far', am', om', ol', oe') ∧ mIv K W h x0 far' ∧ (∀ k y, Pt K W h x0 k y → mCv h far' k y) ∧ (∀ v, v < 256 → far' v ≠ -1 → far' v = nI (fN v) ∧ fN v ≤ 18) ∧ mAm K W h far' fN 256 n' am' om' ol' oe' := by
  obtain ⟨s1, hs, q1⟩ := laySays_ok (says := says) hK hW hh
  obtain ⟨far1, c1, c2⟩ := clear_loop (mk := mk) (mw := worths) (mt := mt) (says := s1) (hI := nI h) am om ol oe 256 300 0 far (by omega) (by omega) (by omega) (fun v hv => absurd hv (by omega))
  have hr := rv_256 (x := x0) hh
  have hi : mIv K W h x0 (upd far1 (rv h x0) 0) := fun w hw => by
    by_cases c : w = rv h x0
    · rw [c, us]; exact Or.inr ⟨0, x0, rfl, rfl, rfl⟩
    · rw [un c]; exact Or.inl (c1 w hw)
  have hco : mCo K W h x0 (upd far1 (rv h x0) 0) 0 := fun k y hk hp => by
    have e : k = 0 := by omega
    subst e
    have e2 : y = x0 := hp
    subst e2
    exact ⟨0, Nat.le_refl _, by omega, us⟩
  obtain ⟨f', far2, a2, b2, d2, e2, r1, r2, r3, r4⟩ := rounds_loop (mk := mk) (mt := mt) hW hh h1 hs h0 35 300 0 (upd far1 (rv h x0) 0) am om ol oe (by omega) (by omega) (by omega) hi hco
  obtain ⟨f', rfl⟩ : ∃ q, f' = q + 1 := ⟨f' - 1, by omega⟩
  obtain ⟨f', rfl⟩ : ∃ q, f' = q + 1 := ⟨f' - 1, by omega⟩
  have hall : ∀ k y, Pt K W h x0 k y → mCv h far2 k y := fun k y hp => r3 k y (by have := Pt_le hW hh h0 hp; omega) hp
  have hcl : mCl K W h far2 := fun x y k ho he hc => by
    obtain ⟨j, j1, j2, j3⟩ := hc
    rcases r2 (rv h x) (rv_256 hh) with c | ⟨q, z, c, cz, cp⟩
    · rw [c] at j3; exact absurd j3.symm (nm1 j (by omega))
    · have hq := Pt_le hW hh h0 cp
      rw [c] at j3
      have e3 := nI_ij (by omega) (by omega) j3
      have e4 := rv_in hh ho.1 (Pt_ok hh h0 _ _ cp).1 cz
      subst e4
      obtain ⟨i, i1, i2, i3⟩ := hall (q + 1) y ⟨x, cp, he⟩
      exact ⟨i, by omega, i2, i3⟩
  have hfN : ∃ fN : Nat → Nat, ∀ v, v < 256 → far2 v ≠ -1 → far2 v = nI (fN v) ∧ fN v ≤ 18 := by
    refine ⟨fun v => (far2 v).toInt.toNat, fun v hv hne => ?_⟩
    rcases r2 v hv with c | ⟨q, z, c, cz, cp⟩
    · exact absurd c hne
    · have hq := Pt_le hW hh h0 cp
      have e : (far2 v).toInt.toNat = q := by
        rw [c, nI_toInt (by omega)]
        exact Int.toNat_natCast q
      show far2 v = nI (far2 v).toInt.toNat ∧ (far2 v).toInt.toNat ≤ 18
      rw [e]
      exact ⟨c, hq⟩
  obtain ⟨fN, hfN⟩ := hfN
  obtain ⟨n', a', b', c', e', g1, g2⟩ := last_loop (mk := mk) (mt := mt) hW hh h1 hs h0 (f_X7_layEnds_38 (nI h) mk worths mt (f' + 1)) (nI 35) r2 hcl hfN 256 300 0 0 0 (-1) 268435456 268435456 (by omega) (by omega) (by omega) ⟨Cnt_0 256 (fun v _ q => absurd q.1 (by omega)), by omega, rfl, fun _ => ⟨fun v q => absurd q.1 (by omega), rfl, rfl, rfl⟩, fun q => absurd q (by omega)⟩
  refine ⟨s1, far2, fN, n', a', b', c', e', ?_, r2, hall, hfN, g1⟩
  refine (bok q1).trans ?_
  refine c2.trans ?_
  refine (bok (wayNow_ok hh hT)).trans ?_
  refine (bok (wr_ok (i := rv h x0))).trans ?_
  refine r4.trans ?_
  refine (if_neg (snle (a := 36) (b := 35))).trans ?_
  refine g2.trans ?_
  exact if_pos (sle (a := 36) (b := 36))
/-- both sides' ends are the same four numbers -/
theorem ends_four {K W : Nat → Nat} {kinds worths mk mw mt says far lies steps : Nat → Int32} {h x0 : Nat} (hK : okK h K kinds) (hW : okW W worths) (hK2 : okK h K mk) (hW2 : okW W mw) (hh : h ≤ 4) (h1 : 0 < h) (h0 : okX h x0) (hT : okT h x0 mt) (r0 n0 gI lI wI am om ol oe : Int32) :
    ∃ (lies' steps' says' far' : Nat → Int32) (m' a b c e : Int32), f_X0_seek lies steps r0 n0 gI lI wI kinds worths (nI x0) (nI h) = some (lies', steps', m', a, b, c, e) ∧ f_X7_layEnds (nI h) mk mw mt says far am om ol oe = some (says', far', a, b, c, e) := by
  obtain ⟨m, L, s, lies', steps', n, g, l, w, gI', lI', wI', p1, p2, p3, p4', p5, p6, p7⟩ := seek_ok (lies := lies) (steps := steps) hK hW hh h0 r0 n0 gI lI wI
  obtain ⟨says', far', fN, n', am', om', ol', oe', q1, q2, q3, q4, q5⟩ := layEnds_ok (says := says) (far := far) hK2 hW2 hh h1 h0 hT am om ol oe
  obtain ⟨l1, l2, l3, l4, l5⟩ := p3
  have hok : ∀ j, j < m → okX h (L j) := fun j hj => Pt_ok hh h0 _ _ (l2 j hj).2.2
  have inj : ∀ i j, i < m → j < m → L i = L j → i = j := fun i j hi hj e => by
    apply Classical.byContradiction
    intro c
    rcases Nat.lt_or_gt_of_ne c with c | c
    · exact l3 j hj i c e
    · exact l3 i hi j c e.symm
  have cover : ∀ k y, Pt K W h x0 k y → ∃ j, j < m ∧ L j = y ∧ s j ≤ k := by
    intro k
    induction k with
    | zero => intro y hy; have e : y = x0 := hy; exact ⟨0, p2, p4'.1.trans e.symm, by rw [p4'.2]; exact Nat.le_refl _⟩
    | succ k ih =>
      intro y hy
      obtain ⟨x, px, ex⟩ := (hy : ∃ x, Pt K W h x0 k x ∧ Eg K W h x y)
      obtain ⟨j, j1, j2, j3⟩ := ih x px
      rw [← j2] at ex
      obtain ⟨i, i1, i2, i3⟩ := p5 j j1 y ex
      exact ⟨i, i1, i2, by omega⟩
  have exact_ : ∀ j, j < m → far' (rv h (L j)) = nI (s j) := fun j hj => by
    have hp := (l2 j hj).2.2
    have hs18 := Pt_le hW hh h0 hp
    obtain ⟨i, i1, i2, i3⟩ := q3 _ _ hp
    rcases q2 (rv h (L j)) (rv_256 hh) with c | ⟨q, z, c, cz, cp⟩
    · rw [c] at i3; exact absurd i3.symm (nm1 i (by omega))
    · have hq := Pt_le hW hh h0 cp
      have e4 := rv_in hh (hok j hj).1 (Pt_ok hh h0 _ _ cp).1 cz
      rw [c] at i3
      have e5 := nI_ij (by omega) (by omega) i3
      obtain ⟨t, t1, t2, t3⟩ := cover q z cp
      have e6 := inj t j t1 hj (t2.trans e4.symm)
      subst e6
      have e7 : q = s t := by omega
      rw [c, e7]
  have hP : ∀ v, v < 256 → ((∃ j, j < m ∧ rv h (L j) = v ∧ En K W h (L j)) ↔ mPe K W h far' 256 v) := fun v hv => by
    constructor
    · intro q
      obtain ⟨j, j1, j2, j3⟩ := q
      refine ⟨hv, ?_, ?_⟩
      · rw [← j2, exact_ j j1]
        have := Pt_le hW hh h0 (l2 j j1).2.2
        exact nm1 _ (by omega)
      · rw [← j2, rv_rv hh (hok j j1).1]; exact j3
    · intro q
      obtain ⟨_, b1, b2⟩ := q
      rcases q2 v hv with c | ⟨k, z, c, cz, cp⟩
      · exact absurd c b1
      · obtain ⟨j, j1, j2, j3⟩ := cover k z cp
        refine ⟨j, j1, by rw [j2]; exact cz.symm, ?_⟩
        rw [cz, rv_rv hh (Pt_ok hh h0 _ _ cp).1] at b2
        rw [j2]; exact b2
  obtain ⟨a1, a2, a3, a4, a5, a6, a7⟩ := p6
  obtain ⟨b1, b2, b3, b4, b5⟩ := q5
  have hn : n = n' := Cnt_eq a1 b1 hP
  subst hn
  have hpos : 0 < n := by
    obtain ⟨k, y, ky, ey⟩ := En_ex (K := K) hW hh h0
    obtain ⟨j, j1, j2, j3⟩ := cover k y ky
    exact Cnt_pos a1 (rv_256 (x := L j) hh) ⟨j, j1, rfl, by rw [j2]; exact ey⟩
  obtain ⟨d1, d2, d3⟩ := a7 hpos
  obtain ⟨e1, e2, e3⟩ := p7 hpos
  obtain ⟨g', l', w', f1, f2, f3, f4, f5, f6, f7, f8, f9⟩ := b5 hpos
  have fwd : ∀ j, (j < m ∧ En K W h (L j)) → mPe K W h far' 256 (rv h (L j)) := fun j q => (hP _ (rv_256 hh)).mp ⟨j, q.1, rfl, q.2⟩
  have eg : g = g' := isMx_eq d1 f7 (fun j q => ⟨rv h (L j), fwd j q, by show sm W h (rv h (rv h (L j))) h = _; rw [rv_rv hh (hok j q.1).1]⟩) (fun v q => by
    obtain ⟨j, j1, j2, j3⟩ := (hP v q.1).mpr q
    refine ⟨j, ⟨j1, j3⟩, ?_⟩
    show sm W h (rv h v) h = sm W h (L j) h
    rw [← j2, rv_rv hh (hok j j1).1])
  have el : l = l' := isMn_eq d2 f8 (fun j q => ⟨rv h (L j), fwd j q, by show sm W h (rv h (rv h (L j))) h = _; rw [rv_rv hh (hok j q.1).1]⟩) (fun v q => by
    obtain ⟨j, j1, j2, j3⟩ := (hP v q.1).mpr q
    refine ⟨j, ⟨j1, j3⟩, ?_⟩
    show sm W h (rv h v) h = sm W h (L j) h
    rw [← j2, rv_rv hh (hok j j1).1])
  have hfs : ∀ j, j < m → fN (rv h (L j)) = s j := fun j hj => by
    have h2 := exact_ j hj
    have h3 := Pt_le hW hh h0 (l2 j hj).2.2
    obtain ⟨h4, h5⟩ := q4 (rv h (L j)) (rv_256 hh) (by rw [h2]; exact nm1 _ (by omega))
    rw [h2] at h4
    exact (nI_ij (by omega) (by omega) h4).symm
  have ew : w = w' := isMn_eq d3 f9 (fun j q => ⟨rv h (L j), fwd j q, hfs j q.1⟩) (fun v q => by
    obtain ⟨j, j1, j2, j3⟩ := (hP v q.1).mpr q
    refine ⟨j, ⟨j1, j3⟩, ?_⟩
    rw [← j2]; exact hfs j j1)
  refine ⟨lies', steps', says', far', nI m, nI n, nI g, nI l, nI w, ?_, ?_⟩
  · rw [p1, e1, e2, e3]
  · rw [q1, b3, f1, f2, f3, eg, el, ew]
