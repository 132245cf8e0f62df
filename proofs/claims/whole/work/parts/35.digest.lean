/-! ===== the digest, both sides ===== -/
theorem wi (z : Int64) (r : Int32) : f_X6_with z r = some (31 * z + r.toInt64) := rfl
theorem mi (z : Int64) (r : Int32) : f_X7_mix z r.toInt64 = some (31 * z + r.toInt64) := rfl
/-! what count() tells -/
theorem dg_count {W : Nat → Nat} {h x n hn : Nat} {codes pg wo ma ho ha hb hm mw mt mc go ga gb gm : Nat → Int32} {ch rr : Int32} (hW : okW W wo) (hW2 : okW W mw) (hh : h ≤ 4) (hx : okX h x) (hT : okT h x mt) {kinds lies steps mk says dl far : Nat → Int32} {r0 n0 g0 l0 w0 am om ol oe : Int32} :
    ∀ (d f1 f2 w : Nat) (z : Int64), w + d = 7 → d < f1 → d < f2 → ∃ z', f_X6_digest_170 codes (nI n) wo ma ho ha hb hm (nI x) ch (nI hn) (nI h) rr f1 z (nI w) kinds lies steps r0 n0 g0 l0 w0 = some (z', kinds, lies, steps, r0, n0, g0, l0, w0) ∧ f_X7_digest_68 rr (nI h) mw mt mc ch (nI hn) go ga gb gm (nI n) pg f2 (nI w) mk says dl far am om ol oe z = some (z', mk, says, dl, far, am, om, ol, oe, z') := by
  intro d
  induction d with
  | zero =>
    intro f1 f2 w z hw h1 h2
    obtain ⟨f1, rfl⟩ : ∃ q, f1 = q + 1 := ⟨f1 - 1, by omega⟩
    obtain ⟨f2, rfl⟩ : ∃ q, f2 = q + 1 := ⟨f2 - 1, by omega⟩
    have e : w = 7 := by omega
    subst e
    exact ⟨z, if_pos (sle (a := 7) (b := 7)), if_pos (sle (a := 7) (b := 7))⟩
  | succ d ih =>
    intro f1 f2 w z hw h1 h2
    obtain ⟨f1, rfl⟩ : ∃ q, f1 = q + 1 := ⟨f1 - 1, by omega⟩
    obtain ⟨f2, rfl⟩ : ∃ q, f2 = q + 1 := ⟨f2 - 1, by omega⟩
    obtain ⟨r, q1, q2⟩ := howMany_eq hW hW2 hh hx hT (nI n) ch (nI hn) rr (nI w)
    obtain ⟨z', p1, p2⟩ := ih f1 f2 (w + 1) (31 * z + r.toInt64) (by omega) (by omega) (by omega)
    refine ⟨z', ?_, ?_⟩
    · refine (if_neg (snle (a := 7) (b := w))).trans ((bok q1).trans ((bok (wi z r)).trans ?_))
      rw [nI_1]; exact p1
    · refine (if_neg (snle (a := 7) (b := w))).trans ((bok q2).trans ((bok (mi z r)).trans ?_))
      rw [nI_1]; exact p2
/-! the page's letters -/
theorem dg_page {W : Nat → Nat} {h x n hn : Nat} {codes pg wo ma ho ha hb hm mw mt mc go ga gb gm : Nat → Int32} {ch rr : Int32} (hW : okW W wo) (hW2 : okW W mw) (hh : h ≤ 4) (hx : okX h x) (hT : okT h x mt) {P : Nat → Nat} (hn25 : n ≤ 25) (hP : okP n P codes) (hP2 : okP n P pg) {kinds lies steps mk says dl far : Nat → Int32} {r0 n0 g0 l0 w0 am om ol oe : Int32} :
    ∀ (d f1 f2 k : Nat) (z : Int64), k + d = n → d < f1 → d < f2 → ∃ z', f_X6_digest_129 codes (nI n) wo ma ho ha hb hm (nI x) ch (nI hn) (nI h) rr f1 z (nI k) kinds lies steps r0 n0 g0 l0 w0 = some (z', kinds, lies, steps, r0, n0, g0, l0, w0) ∧ f_X7_digest_41 rr (nI h) mw mt mc ch (nI hn) go ga gb gm (nI n) pg f2 (nI k) mk says dl far am om ol oe z = some (z', mk, says, dl, far, am, om, ol, oe, z') := by
  intro d
  induction d with
  | zero =>
    intro f1 f2 k z hk h1 h2
    obtain ⟨f1, rfl⟩ : ∃ q, f1 = q + 1 := ⟨f1 - 1, by omega⟩
    obtain ⟨f2, rfl⟩ : ∃ q, f2 = q + 1 := ⟨f2 - 1, by omega⟩
    obtain ⟨z', p1, p2⟩ := dg_count (codes := codes) (pg := pg) (n := n) (hn := hn) (ma := ma) (ho := ho) (ha := ha) (hb := hb) (hm := hm) (mc := mc) (go := go) (ga := ga) (gb := gb) (gm := gm) (ch := ch) (rr := rr) hW hW2 hh hx hT (kinds := kinds) (lies := lies) (steps := steps) (mk := mk) (says := says) (dl := dl) (far := far) (r0 := r0) (n0 := n0) (g0 := g0) (l0 := l0) (w0 := w0) (am := am) (om := om) (ol := ol) (oe := oe) 7 300 300 0 z (by omega) (by omega) (by omega)
    refine ⟨z', ?_, ?_⟩
    · by_cases c : 25 ≤ k
      · exact (if_pos (sle (a := 25) (b := k))).trans p1
      · exact (if_neg (snle (a := 25) (b := k))).trans ((if_pos (sle (a := n) (b := k))).trans p1)
    · exact (if_pos (sle (a := n) (b := k))).trans p2
  | succ d ih =>
    intro f1 f2 k z hk h1 h2
    obtain ⟨f1, rfl⟩ : ∃ q, f1 = q + 1 := ⟨f1 - 1, by omega⟩
    obtain ⟨f2, rfl⟩ : ∃ q, f2 = q + 1 := ⟨f2 - 1, by omega⟩
    obtain ⟨z', p1, p2⟩ := ih f1 f2 (k + 1) (31 * z + (nI (P k)).toInt64) (by omega) (by omega) (by omega)
    refine ⟨z', ?_, ?_⟩
    · refine (if_neg (snle (a := 25) (b := k))).trans ((if_neg (snle (a := n) (b := k))).trans ((bok (get_ok (i := k))).trans ?_))
      rw [(hP k (by omega)).1]
      refine (bok (wi z (nI (P k)))).trans ?_
      rw [nI_1]; exact p1
    · refine (if_neg (snle (a := n) (b := k))).trans ((bok (rd_ok (i := k))).trans ?_)
      rw [(hP2 k (by omega)).1]
      refine (bok (mi z (nI (P k)))).trans ?_
      rw [nI_1]; exact p2
/-! an heir's numbers -/
set_option maxRecDepth 20000 in
theorem ten_tab : ∀ k, k < 24 → (nI k - nI k / 10 * 10) = nI (k % 10) := by decide +kernel
theorem sk_ok {h hn i : Nat} {mw mt mc go ga gb gm mk says dl : Nat → Int32} {z : Int64} :
    ∀ (d g k : Nat), (∀ j, j < d → 4 ≤ (k + j) % 10 ∧ k + j < 24) → f_X7_mixHeir_2 (nI h) mw mt mc (nI hn) go ga gb gm (g + d) (nI i) (nI k) mk says dl z = f_X7_mixHeir_2 (nI h) mw mt mc (nI hn) go ga gb gm g (nI i) (nI (k + d)) mk says dl z := by
  intro d
  induction d with
  | zero => intro g k _; rfl
  | succ d ih =>
    intro g k hk
    obtain ⟨k1, k2⟩ := hk 0 (by omega)
    rw [Nat.add_zero] at k1 k2
    rw [← Nat.add_assoc g d 1]
    refine (if_neg (snle (a := 24) (b := k))).trans ?_
    refine (if_pos (by rw [ten_tab k k2]; exact sle (a := 4) (b := k % 10))).trans ?_
    rw [nI_1, show k + (d + 1) = k + 1 + d by omega]
    exact ih g (k + 1) (fun j hj => by
      have := hk (j + 1) (by omega)
      rw [show k + 1 + j = k + (j + 1) by omega]; exact this)
theorem wl0 {K W : Nat → Nat} {h x hn : Nat} {wo ma ho ha hb hm mw mt mc go ga gb gm kinds mk dl : Nat → Int32} (hK : okK h K kinds) (hW : okW W wo) (hK2 : okK h K mk) (hW2 : okW W mw) (hh : h ≤ 4) (hx : okX h x) (hT : okT h x mt) (hmm : ∀ i, i < h → ma i = mc i) {i : Nat} (hi : i < h) :
    ∀ (d f1 g w : Nat) (z : Int64) (says : Nat → Int32), w + d = 4 → d < f1 → ∃ z' says', f_X6_withHeir_6 wo ma ho ha hb hm (nI x) (nI hn) (nI h) f1 (nI i) z (nI w) kinds = f_X6_withHeir_35 wo ma ho ha hb hm (nI x) (nI hn) (nI h) 300 (nI i) z' 0 kinds ∧ f_X7_mixHeir_2 (nI h) mw mt mc (nI hn) go ga gb gm (g + d) (nI i) (nI (w)) mk says dl z = f_X7_mixHeir_2 (nI h) mw mt mc (nI hn) go ga gb gm g (nI i) (nI 4) mk says' dl z' := by
  intro d
  induction d with
  | zero =>
    intro f1 g w z says hw h1
    obtain ⟨f1, rfl⟩ : ∃ q, f1 = q + 1 := ⟨f1 - 1, by omega⟩
    have e : w = 4 := by omega
    subst e
    exact ⟨z, says, (if_pos (slt (a := 3) (b := 4))), rfl⟩
  | succ d ih =>
    intro f1 g w z says hw h1
    obtain ⟨f1, rfl⟩ : ∃ q, f1 = q + 1 := ⟨f1 - 1, by omega⟩
    obtain ⟨r, s1, q1, q2⟩ := about_in (says := says) hK hW hK2 hW2 hh hx hT hmm hi (w := w) (by omega)
    obtain ⟨z', says', p1, p2⟩ := ih f1 g (w + 1) (31 * z + r.toInt64) s1 (by omega) (by omega)
    refine ⟨z', says', ?_, ?_⟩
    · refine (if_neg (snlt (a := 3) (b := w))).trans ?_
      refine (bok q1).trans ((bok (wi z r)).trans ?_)
      rw [nI_1]; exact p1
    · rw [← Nat.add_assoc g d 1]
      refine (if_neg (snle (a := 24) (b := w))).trans ?_
      refine (if_neg (by rw [ten_tab (w) (by omega)]; exact snle (a := 4) (b := (w) % 10))).trans ?_
      refine (bok q2).trans ((bok (mi z r)).trans ?_)
      rw [nI_1]; exact p2
theorem wl10 {K W : Nat → Nat} {h x hn : Nat} {wo ma ho ha hb hm mw mt mc go ga gb gm kinds mk dl : Nat → Int32} (hK : okK h K kinds) (hW : okW W wo) (hK2 : okK h K mk) (hW2 : okW W mw) (hh : h ≤ 4) (hx : okX h x) (hT : okT h x mt) (hmm : ∀ i, i < h → ma i = mc i) {i : Nat} (hi : i < h) :
    ∀ (d f1 g w : Nat) (z : Int64) (says : Nat → Int32), w + d = 4 → d < f1 → ∃ z' says', f_X6_withHeir_35 wo ma ho ha hb hm (nI x) (nI hn) (nI h) f1 (nI i) z (nI w) kinds = f_X6_withHeir_67 wo ma ho ha hb hm (nI x) (nI hn) (nI h) 300 (nI i) z' 0 kinds ∧ f_X7_mixHeir_2 (nI h) mw mt mc (nI hn) go ga gb gm (g + d) (nI i) (nI (10 + w)) mk says dl z = f_X7_mixHeir_2 (nI h) mw mt mc (nI hn) go ga gb gm g (nI i) (nI 14) mk says' dl z' := by
  intro d
  induction d with
  | zero =>
    intro f1 g w z says hw h1
    obtain ⟨f1, rfl⟩ : ∃ q, f1 = q + 1 := ⟨f1 - 1, by omega⟩
    have e : w = 4 := by omega
    subst e
    exact ⟨z, says, (if_pos (sle (a := 4) (b := 4))), rfl⟩
  | succ d ih =>
    intro f1 g w z says hw h1
    obtain ⟨f1, rfl⟩ : ∃ q, f1 = q + 1 := ⟨f1 - 1, by omega⟩
    obtain ⟨r, s1, q1, q2⟩ := about_in (says := says) hK hW hK2 hW2 hh hx hT hmm hi (w := 10 + w) (by omega)
    obtain ⟨z', says', p1, p2⟩ := ih f1 g (w + 1) (31 * z + r.toInt64) s1 (by omega) (by omega)
    refine ⟨z', says', ?_, ?_⟩
    · refine (if_neg (snle (a := 4) (b := w))).trans ?_
      rw [show (10 : Int32) + nI w = nI (10 + w) from nI_add 10 w]
      refine (bok q1).trans ((bok (wi z r)).trans ?_)
      rw [nI_1]; exact p1
    · rw [← Nat.add_assoc g d 1]
      refine (if_neg (snle (a := 24) (b := 10 + w))).trans ?_
      refine (if_neg (by rw [ten_tab (10 + w) (by omega)]; exact snle (a := 4) (b := (10 + w) % 10))).trans ?_
      refine (bok q2).trans ((bok (mi z r)).trans ?_)
      rw [nI_1]; exact p2
theorem wl20 {K W : Nat → Nat} {h x hn : Nat} {wo ma ho ha hb hm mw mt mc go ga gb gm kinds mk dl : Nat → Int32} (hK : okK h K kinds) (hW : okW W wo) (hK2 : okK h K mk) (hW2 : okW W mw) (hh : h ≤ 4) (hx : okX h x) (hT : okT h x mt) (hmm : ∀ i, i < h → ma i = mc i) {i : Nat} (hi : i < h) :
    ∀ (d f1 g w : Nat) (z : Int64) (says : Nat → Int32), w + d = 4 → d < f1 → ∃ z' says', f_X6_withHeir_67 wo ma ho ha hb hm (nI x) (nI hn) (nI h) f1 (nI i) z (nI w) kinds = (f_X6_served kinds wo (nI h) (nI i) 0).bind (fun (v2, g3) => (f_X6_with z' v2).bind (fun v5 => (f_X6_served g3 wo (nI h) (nI i) 1).bind (fun (v7, g8) => (f_X6_with v5 v7).bind (fun v10 => f_X6_withHeir_125 wo ma ho ha hb hm (nI x) (nI hn) (nI h) 300 (nI i) v10 0 g8)))) ∧ f_X7_mixHeir_2 (nI h) mw mt mc (nI hn) go ga gb gm (g + d) (nI i) (nI (20 + w)) mk says dl z = f_X7_mixHeir_2 (nI h) mw mt mc (nI hn) go ga gb gm g (nI i) (nI 24) mk says' dl z' := by
  intro d
  induction d with
  | zero =>
    intro f1 g w z says hw h1
    obtain ⟨f1, rfl⟩ : ∃ q, f1 = q + 1 := ⟨f1 - 1, by omega⟩
    have e : w = 4 := by omega
    subst e
    exact ⟨z, says, (if_pos (sle (a := 4) (b := 4))), rfl⟩
  | succ d ih =>
    intro f1 g w z says hw h1
    obtain ⟨f1, rfl⟩ : ∃ q, f1 = q + 1 := ⟨f1 - 1, by omega⟩
    obtain ⟨r, s1, q1, q2⟩ := about_in (says := says) hK hW hK2 hW2 hh hx hT hmm hi (w := 20 + w) (by omega)
    obtain ⟨z', says', p1, p2⟩ := ih f1 g (w + 1) (31 * z + r.toInt64) s1 (by omega) (by omega)
    refine ⟨z', says', ?_, ?_⟩
    · refine (if_neg (snle (a := 4) (b := w))).trans ?_
      rw [show (20 : Int32) + nI w = nI (20 + w) from nI_add 20 w]
      refine (bok q1).trans ((bok (wi z r)).trans ?_)
      rw [nI_1]; exact p1
    · rw [← Nat.add_assoc g d 1]
      refine (if_neg (snle (a := 24) (b := 20 + w))).trans ?_
      refine (if_neg (by rw [ten_tab (20 + w) (by omega)]; exact snle (a := 4) (b := (20 + w) % 10))).trans ?_
      refine (bok q2).trans ((bok (mi z r)).trans ?_)
      rw [nI_1]; exact p2
theorem wl125 {W : Nat → Nat} {o a b m : Nat → Nat} {h x hn : Nat} {wo ma ho ha hb hm mw mt mc go ga gb gm kinds mk says dl : Nat → Int32} (hW : okW W wo) (hH : okH h hn o a b m ho ha hb hm) (hW2 : okW W mw) (hH2 : okH h hn o a b m go ga gb gm) (hh : h ≤ 4) (hn6 : hn ≤ 6) {i : Nat} (hi : i < h) :
    ∀ (d f1 f2 t : Nat) (z : Int64), t + d = 4 → d < f1 → d < f2 → ∃ z', f_X6_withHeir_125 wo ma ho ha hb hm (nI x) (nI hn) (nI h) f1 (nI i) z (nI t) kinds = some (z', kinds) ∧ f_X7_mixHeir_57 (nI h) mw mt mc (nI hn) go ga gb gm f2 (nI i) (nI t) mk says dl z = some (mk, says, dl, z') := by
  intro d
  induction d with
  | zero =>
    intro f1 f2 t z ht h1 h2
    obtain ⟨f1, rfl⟩ : ∃ q, f1 = q + 1 := ⟨f1 - 1, by omega⟩
    obtain ⟨f2, rfl⟩ : ∃ q, f2 = q + 1 := ⟨f2 - 1, by omega⟩
    have e : t = 4 := by omega
    subst e
    exact ⟨z, if_pos (sle (a := 4) (b := 4)), if_pos (sle (a := 4) (b := 4))⟩
  | succ d ih =>
    intro f1 f2 t z ht h1 h2
    obtain ⟨f1, rfl⟩ : ∃ q, f1 = q + 1 := ⟨f1 - 1, by omega⟩
    obtain ⟨f2, rfl⟩ : ∃ q, f2 = q + 1 := ⟨f2 - 1, by omega⟩
    have t1 := ctruths_ok hW hH hh hn6 hi (show t < 4 by omega)
    have t2 := truthsNow_ok hW2 hH2 hh hn6 hi (show t < 4 by omega)
    obtain ⟨r, q1, q2⟩ := ask_eq hW hH hW2 hH2 hh hn6 hi (show t < 4 by omega)
    obtain ⟨z', p1, p2⟩ := ih f1 f2 (t + 1) (31 * (31 * z + (nI (tb W o a b m hn i t 10)).toInt64) + r.toInt64) (by omega) (by omega) (by omega)
    refine ⟨z', ?_, ?_⟩
    · refine (if_neg (snle (a := 4) (b := t))).trans ((bok t1).trans ((bok (wi z _)).trans ((bok q1).trans ((bok (wi _ r)).trans ?_))))
      rw [nI_1]; exact p1
    · refine (if_neg (snle (a := 4) (b := t))).trans ((bok t2).trans ((bok (mi z _)).trans ((bok q2).trans ((bok (mi _ r)).trans ?_))))
      rw [nI_1]; exact p2
theorem sv6 {h : Nat} {K W : Nat → Nat} {kinds wo : Nat → Int32} (hK : okK h K kinds) (hW : okW W wo) (hh : h ≤ 4) {i : Nat} (hi : i < h) {w : Nat} (hw : w ≤ 1) : ∃ g, okK h K g ∧ f_X6_served kinds wo (nI h) (nI i) (nI w) = some ((if nI w = 0 then (svI (svV K W i) 5).1 else (svI (svV K W i) 5).2), g) := by
  obtain ⟨g, g1, g2⟩ := cserved_ok hK hW hh hi (nI w)
  exact ⟨g, g1, (bok (kn_ok hh hi)).trans ((if_neg (by decide)).trans ((if_neg (snlt (a := w) (b := 0))).trans ((if_pos (sle (a := w) (b := 1))).trans g2)))⟩
theorem heir_mix {K W : Nat → Nat} {o a b m : Nat → Nat} {h x hn : Nat} {wo ma ho ha hb hm mw mt mc go ga gb gm kinds mk says dl : Nat → Int32} (hK : okK h K kinds) (hW : okW W wo) (hK2 : okK h K mk) (hW2 : okW W mw) (hh : h ≤ 4) (hx : okX h x) (hT : okT h x mt) (hmm : ∀ i, i < h → ma i = mc i) (hn6 : hn ≤ 6) (hH : okH h hn o a b m ho ha hb hm) (hH2 : okH h hn o a b m go ga gb gm) {i : Nat} (hi : i < h) (z : Int64) :
    ∃ z' k' mk' s' d', okK h K k' ∧ okK h K mk' ∧ f_X6_withHeir kinds wo ma ho ha hb hm (nI x) (nI hn) (nI h) z (nI i) = some (z', k') ∧ f_X7_mixHeir (nI h) mk mw mt mc (nI hn) go ga gb gm says dl z (nI i) = some (mk', s', d', z') := by
  obtain ⟨z1, s1, a1, b1⟩ := wl0 (ho := ho) (ha := ha) (hb := hb) (hm := hm) (go := go) (ga := ga) (gb := gb) (gm := gm) (hn := hn) (dl := dl) hK hW hK2 hW2 hh hx hT hmm hi 4 300 296 0 z says (by omega) (by omega)
  have c1 := sk_ok (h := h) (hn := hn) (i := i) (mw := mw) (mt := mt) (mc := mc) (go := go) (ga := ga) (gb := gb) (gm := gm) (mk := mk) (says := s1) (dl := dl) (z := z1) 6 290 4 (fun j hj => by omega)
  obtain ⟨z2, s2, a2, b2⟩ := wl10 (ho := ho) (ha := ha) (hb := hb) (hm := hm) (go := go) (ga := ga) (gb := gb) (gm := gm) (hn := hn) (dl := dl) hK hW hK2 hW2 hh hx hT hmm hi 4 300 286 0 z1 s1 (by omega) (by omega)
  have c2 := sk_ok (h := h) (hn := hn) (i := i) (mw := mw) (mt := mt) (mc := mc) (go := go) (ga := ga) (gb := gb) (gm := gm) (mk := mk) (says := s2) (dl := dl) (z := z2) 6 280 14 (fun j hj => by omega)
  obtain ⟨z3, s3, a3, b3⟩ := wl20 (ho := ho) (ha := ha) (hb := hb) (hm := hm) (go := go) (ga := ga) (gb := gb) (gm := gm) (hn := hn) (dl := dl) hK hW hK2 hW2 hh hx hT hmm hi 4 300 (275 + 1) 0 z2 s2 (by omega) (by omega)
  obtain ⟨k1, k1o, d1⟩ := sv6 hK hW hh hi (w := 0) (by omega)
  obtain ⟨m1, t1, u1, m1o, e1⟩ := servedNow_ok (says := s3) (dealt := dl) hK2 hW2 hh hi (nI 0)
  obtain ⟨k2, k2o, d2⟩ := sv6 k1o hW hh hi (w := 1) (by omega)
  obtain ⟨m2, t2, u2, m2o, e2⟩ := servedNow_ok (says := t1) (dealt := u1) m1o hW2 hh hi (nI 1)
  obtain ⟨z4, p1, p2⟩ := wl125 (x := x) (ma := ma) (mt := mt) (mc := mc) (kinds := k2) (mk := m2) (says := t2) (dl := u2) hW hH hW2 hH2 hh hn6 hi 4 300 300 0 (31 * (31 * z3 + (if nI 0 = 0 then (svI (svV K W i) 5).1 else (svI (svV K W i) 5).2).toInt64) + (if nI 1 = 0 then (svI (svV K W i) 5).1 else (svI (svV K W i) 5).2).toInt64) (by omega) (by omega) (by omega)
  refine ⟨z4, k2, m2, t2, u2, k2o, m2o, ?_, ?_⟩
  · refine a1.trans (a2.trans (a3.trans ?_))
    exact (bok d1).trans ((bok (wi z3 _)).trans ((bok d2).trans ((bok (wi _ _)).trans p1)))
  · refine b1.trans (c1.trans (b2.trans (c2.trans (b3.trans ?_))))
    refine (if_pos (sle (a := 24) (b := 24))).trans ?_
    exact (bok e1).trans ((bok (mi z3 _)).trans ((bok e2).trans ((bok (mi _ _)).trans p2)))
/-! the heirs, one after the other -/
theorem dg_heirs {K W P : Nat → Nat} {o a b m : Nat → Nat} {h x n hn : Nat} {codes pg wo ma ho ha hb hm mw mt mc go ga gb gm : Nat → Int32} {ch rr : Int32} (hW : okW W wo) (hW2 : okW W mw) (hh : h ≤ 4) (hx : okX h x) (hT : okT h x mt) (hmm : ∀ i, i < h → ma i = mc i) (hn6 : hn ≤ 6) (hH : okH h hn o a b m ho ha hb hm) (hH2 : okH h hn o a b m go ga gb gm) (hn25 : n ≤ 25) (hP : okP n P codes) (hP2 : okP n P pg) {lies steps far : Nat → Int32} {r0 n0 g0 l0 w0 am om ol oe : Int32} :
    ∀ (d f1 f2 i : Nat) (z : Int64) (kinds mk says dl : Nat → Int32), i + d = h → d < f1 → d < f2 → okK h K kinds → okK h K mk → ∃ z' k' mk' s' d', okK h K k' ∧ okK h K mk' ∧ f_X6_digest_98 codes (nI n) wo ma ho ha hb hm (nI x) ch (nI hn) (nI h) rr f1 z (nI i) kinds lies steps r0 n0 g0 l0 w0 = some (z', k', lies, steps, r0, n0, g0, l0, w0) ∧ f_X7_digest_20 rr (nI h) mw mt mc ch (nI hn) go ga gb gm (nI n) pg f2 (nI i) mk says dl far am om ol oe z = some (z', mk', s', d', far, am, om, ol, oe, z') := by
  intro d
  induction d with
  | zero =>
    intro f1 f2 i z kinds mk says dl hd h1 h2 hK hK2
    obtain ⟨f1, rfl⟩ : ∃ q, f1 = q + 1 := ⟨f1 - 1, by omega⟩
    obtain ⟨f2, rfl⟩ : ∃ q, f2 = q + 1 := ⟨f2 - 1, by omega⟩
    obtain ⟨z', p1, p2⟩ := dg_page (hn := hn) (ma := ma) (ho := ho) (ha := ha) (hb := hb) (hm := hm) (mc := mc) (go := go) (ga := ga) (gb := gb) (gm := gm) (ch := ch) (rr := rr) hW hW2 hh hx hT hn25 hP hP2 (kinds := kinds) (lies := lies) (steps := steps) (mk := mk) (says := says) (dl := dl) (far := far) (r0 := r0) (n0 := n0) (g0 := g0) (l0 := l0) (w0 := w0) (am := am) (om := om) (ol := ol) (oe := oe) n 300 300 0 z (by omega) (by omega) (by omega)
    refine ⟨z', kinds, mk, says, dl, hK, hK2, ?_, ?_⟩
    · by_cases c : 4 ≤ i
      · exact (if_pos (sle (a := 4) (b := i))).trans p1
      · exact (if_neg (snle (a := 4) (b := i))).trans ((if_pos (sle (a := h) (b := i))).trans p1)
    · exact (if_pos (sle (a := h) (b := i))).trans p2
  | succ d ih =>
    intro f1 f2 i z kinds mk says dl hd h1 h2 hK hK2
    obtain ⟨f1, rfl⟩ : ∃ q, f1 = q + 1 := ⟨f1 - 1, by omega⟩
    obtain ⟨f2, rfl⟩ : ∃ q, f2 = q + 1 := ⟨f2 - 1, by omega⟩
    obtain ⟨z1, k1, m1, s1, e1, q1, q2, q3, q4⟩ := heir_mix (says := says) (dl := dl) hK hW hK2 hW2 hh hx hT hmm hn6 hH hH2 (show i < h by omega) z
    obtain ⟨z', k', mk', s', d', p1, p2, p3, p4⟩ := ih f1 f2 (i + 1) z1 k1 m1 s1 e1 (by omega) (by omega) (by omega) q1 q2
    refine ⟨z', k', mk', s', d', p1, p2, ?_, ?_⟩
    · refine (if_neg (snle (a := 4) (b := i))).trans ((if_neg (snle (a := h) (b := i))).trans ((bok q3).trans ?_))
      rw [nI_1]; exact p3
    · refine (if_neg (snle (a := h) (b := i))).trans ((bok q4).trans ?_)
      rw [nI_1]; exact p4
/-! what would be -/
theorem dg_worst {W : Nat → Nat} {h x n hn : Nat} {codes wo ma ho ha hb hm mw mt : Nat → Int32} {ch rr : Int32} (hW : okW W wo) (hW2 : okW W mw) (h2 : 2 ≤ h) (hh : h ≤ 4) {kinds lies steps mk says far : Nat → Int32} {r0 n0 g0 l0 w0 am om ol oe : Int32} :
    ∀ (d f1 f2 i : Nat) (z : Int64), i + d = 4 → d < f1 → d < f2 → ∃ z', f_X6_digest_72 codes (nI n) wo ma ho ha hb hm (nI x) ch (nI hn) (nI h) rr f1 z (nI i) kinds lies steps r0 n0 g0 l0 w0 = f_X6_digest_96 codes (nI n) wo ma ho ha hb hm (nI x) ch (nI hn) (nI h) rr z' kinds lies steps r0 n0 g0 l0 w0 ∧ f_X7_mixWill_59 (nI h) mk mw mt f2 (nI (10 + i)) says far am om ol oe z = some (says, far, am, om, ol, oe, z') := by
  intro d
  induction d with
  | zero =>
    intro f1 f2 i z hi h1 h3
    obtain ⟨f1, rfl⟩ : ∃ q, f1 = q + 1 := ⟨f1 - 1, by omega⟩
    obtain ⟨f2, rfl⟩ : ∃ q, f2 = q + 1 := ⟨f2 - 1, by omega⟩
    have e : i = 4 := by omega
    subst e
    exact ⟨z, if_pos (sle (a := 4) (b := 4)), if_pos (sle (a := 14) (b := 10 + 4))⟩
  | succ d ih =>
    intro f1 f2 i z hi h1 h3
    obtain ⟨f1, rfl⟩ : ∃ q, f1 = q + 1 := ⟨f1 - 1, by omega⟩
    obtain ⟨f2, rfl⟩ : ∃ q, f2 = q + 1 := ⟨f2 - 1, by omega⟩
    obtain ⟨r, q1, q2⟩ := worst_i hW hW2 h2 hh (show i < 4 by omega)
    obtain ⟨z', p1, p2⟩ := ih f1 f2 (i + 1) (31 * z + r.toInt64) (by omega) (by omega) (by omega)
    refine ⟨z', ?_, ?_⟩
    · refine (if_neg (snle (a := 4) (b := i))).trans ?_
      rw [show (10 : Int32) + nI i = nI (10 + i) from nI_add 10 i]
      refine (bok q1).trans ((bok (wi z r)).trans ?_)
      rw [nI_1]; exact p1
    · refine (if_neg (snle (a := 14) (b := 10 + i))).trans ((bok q2).trans ((bok (mi z r)).trans ?_))
      rw [nI_1]; exact p2
theorem dg_ends {K W : Nat → Nat} {h x n hn : Nat} {codes wo ma ho ha hb hm mw mt : Nat → Int32} {ch rr : Int32} {kinds mk : Nat → Int32} (hK : okK h K kinds) (hW : okW W wo) (hK2 : okK h K mk) (hW2 : okW W mw) (h2 : 2 ≤ h) (hh : h ≤ 4) (hx : okX h x) (hT : okT h x mt) :
    ∀ (d f1 f2 w : Nat) (z : Int64) (lies steps says far : Nat → Int32) (r0 n0 g0 l0 w0 am om ol oe : Int32), w + d = 4 → d < f1 → d < f2 → ∃ z' lies' steps' says' far' r1 n1 g1 l1 w1 am' om' ol' oe', f_X6_digest_39 codes (nI n) wo ma ho ha hb hm (nI x) ch (nI hn) (nI h) rr f1 z (nI w) kinds lies steps r0 n0 g0 l0 w0 = f_X6_digest_96 codes (nI n) wo ma ho ha hb hm (nI x) ch (nI hn) (nI h) rr z' kinds lies' steps' r1 n1 g1 l1 w1 ∧ f_X7_mixWill_25 (nI h) mk mw mt f2 (nI w) says far am om ol oe z = some (says', far', am', om', ol', oe', z') := by
  intro d
  induction d with
  | zero =>
    intro f1 f2 w z lies steps says far r0 n0 g0 l0 w0 am om ol oe hw h1 h3
    obtain ⟨f1, rfl⟩ : ∃ q, f1 = q + 1 := ⟨f1 - 1, by omega⟩
    obtain ⟨f2, rfl⟩ : ∃ q, f2 = q + 1 := ⟨f2 - 1, by omega⟩
    have e : w = 4 := by omega
    subst e
    obtain ⟨r, q1, q2⟩ := worst_0 hW hW2 h2 hh
    obtain ⟨z', p1, p2⟩ := dg_worst (x := x) (n := n) (hn := hn) (codes := codes) (ma := ma) (ho := ho) (ha := ha) (hb := hb) (hm := hm) (mt := mt) (ch := ch) (rr := rr) hW hW2 h2 hh (kinds := kinds) (lies := lies) (steps := steps) (mk := mk) (says := says) (far := far) (r0 := r0) (n0 := n0) (g0 := g0) (l0 := l0) (w0 := w0) (am := am) (om := om) (ol := ol) (oe := oe) 4 300 300 0 (31 * z + r.toInt64) (by omega) (by omega) (by omega)
    refine ⟨z', lies, steps, says, far, r0, n0, g0, l0, w0, am, om, ol, oe, ?_, ?_⟩
    · exact (if_pos (slt (a := 3) (b := 4))).trans ((bok q1).trans ((bok (wi z r)).trans p1))
    · exact (if_pos (sle (a := 4) (b := 4))).trans ((bok q2).trans ((bok (mi z r)).trans p2))
  | succ d ih =>
    intro f1 f2 w z lies steps says far r0 n0 g0 l0 w0 am om ol oe hw h1 h3
    obtain ⟨f1, rfl⟩ : ∃ q, f1 = q + 1 := ⟨f1 - 1, by omega⟩
    obtain ⟨f2, rfl⟩ : ∃ q, f2 = q + 1 := ⟨f2 - 1, by omega⟩
    obtain ⟨r, lies1, steps1, says1, far1, m1, a1, b1, c1, e1, q1, q2⟩ := ends_in (says := says) (far := far) (lies := lies) (steps := steps) hK hW hK2 hW2 hh (by omega) hx hT r0 n0 g0 l0 w0 am om ol oe (show w < 4 by omega)
    obtain ⟨z', lies', steps', says', far', r1, n1, g1, l1, w1, am', om', ol', oe', p1, p2⟩ := ih f1 f2 (w + 1) (31 * z + r.toInt64) lies1 steps1 says1 far1 m1 a1 b1 c1 e1 a1 b1 c1 e1 (by omega) (by omega) (by omega)
    refine ⟨z', lies', steps', says', far', r1, n1, g1, l1, w1, am', om', ol', oe', ?_, ?_⟩
    · refine (if_neg (snlt (a := 3) (b := w))).trans ((bok q1).trans ((bok (wi z r)).trans ?_))
      rw [nI_1]; exact p1
    · refine (if_neg (snle (a := 4) (b := w))).trans ((bok q2).trans ((bok (mi z r)).trans ?_))
      rw [nI_1]; exact p2
theorem dg_has {K W : Nat → Nat} {h x n hn : Nat} {codes wo ma ho ha hb hm mw mt : Nat → Int32} {ch rr : Int32} {kinds mk : Nat → Int32} (hK : okK h K kinds) (hW : okW W wo) (hK2 : okK h K mk) (hW2 : okW W mw) (h2 : 2 ≤ h) (hh : h ≤ 4) (hx : okX h x) (hT : okT h x mt) {lies steps says far : Nat → Int32} {r0 n0 g0 l0 w0 am om ol oe : Int32} :
    ∀ (d f1 f2 t : Nat) (z : Int64), t + d = 4 → d < f1 → d < f2 → ∃ z' lies' steps' says' far' r1 n1 g1 l1 w1 am' om' ol' oe', f_X6_digest_16 codes (nI n) wo ma ho ha hb hm (nI x) ch (nI hn) (nI h) rr f1 z (nI t) kinds lies steps r0 n0 g0 l0 w0 = f_X6_digest_96 codes (nI n) wo ma ho ha hb hm (nI x) ch (nI hn) (nI h) rr z' kinds lies' steps' r1 n1 g1 l1 w1 ∧ f_X7_mixWill_2 (nI h) mk mw mt f2 (nI t) says far am om ol oe z = some (says', far', am', om', ol', oe', z') := by
  intro d
  induction d with
  | zero =>
    intro f1 f2 t z ht h1 h3
    obtain ⟨f1, rfl⟩ : ∃ q, f1 = q + 1 := ⟨f1 - 1, by omega⟩
    obtain ⟨f2, rfl⟩ : ∃ q, f2 = q + 1 := ⟨f2 - 1, by omega⟩
    have e : t = 4 := by omega
    subst e
    obtain ⟨z', lies', steps', says', far', r1, n1, g1, l1, w1, am', om', ol', oe', p1, p2⟩ := dg_ends (n := n) (hn := hn) (codes := codes) (ma := ma) (ho := ho) (ha := ha) (hb := hb) (hm := hm) (ch := ch) (rr := rr) hK hW hK2 hW2 h2 hh hx hT 4 300 300 0 z lies steps says far r0 n0 g0 l0 w0 am om ol oe (by omega) (by omega) (by omega)
    exact ⟨z', lies', steps', says', far', r1, n1, g1, l1, w1, am', om', ol', oe', (if_pos (sle (a := 4) (b := 4))).trans p1, (if_pos (sle (a := 4) (b := 4))).trans p2⟩
  | succ d ih =>
    intro f1 f2 t z ht h1 h3
    obtain ⟨f1, rfl⟩ : ∃ q, f1 = q + 1 := ⟨f1 - 1, by omega⟩
    obtain ⟨f2, rfl⟩ : ∃ q, f2 = q + 1 := ⟨f2 - 1, by omega⟩
    obtain ⟨r, q1, q2⟩ := has_in hh (by omega) hx hT (show t < 4 by omega)
    obtain ⟨z', lies', steps', says', far', r1, n1, g1, l1, w1, am', om', ol', oe', p1, p2⟩ := ih f1 f2 (t + 1) (31 * z + r.toInt64) (by omega) (by omega) (by omega)
    refine ⟨z', lies', steps', says', far', r1, n1, g1, l1, w1, am', om', ol', oe', ?_, ?_⟩
    · refine (if_neg (snle (a := 4) (b := t))).trans ((bok q1).trans ((bok (wi z r)).trans ?_))
      rw [nI_1]; exact p1
    · refine (if_neg (snle (a := 4) (b := t))).trans ((bok q2).trans ((bok (mi z r)).trans ?_))
      rw [nI_1]; exact p2
theorem digest_eq {K W P : Nat → Nat} {o a b m : Nat → Nat} {h x n hn : Nat} {codes pg wo ma ho ha hb hm mw mt mc go ga gb gm : Nat → Int32} {ch rr : Int32} {kinds mk says dl lies steps far : Nat → Int32} {r0 n0 g0 l0 w0 am om ol oe : Int32} {mh : Int64} (hK : okK h K kinds) (hW : okW W wo) (hK2 : okK h K mk) (hW2 : okW W mw) (hh : h ≤ 4) (hx : okX h x) (hT : okT h x mt) (hmm : ∀ i, i < h → ma i = mc i) (hn6 : hn ≤ 6) (hH : okH h hn o a b m ho ha hb hm) (hH2 : okH h hn o a b m go ga gb gm) (hn25 : n ≤ 25) (hP : okP n P codes) (hP2 : okP n P pg) (h2 : h = 0 ∨ 2 ≤ h) :
    ∃ z k' mk' s' d' lies' steps' far' r1 n1 g1 l1 w1 am' om' ol' oe' mh', okK h K k' ∧ okK h K mk' ∧ f_X6_digest codes (nI n) kinds wo ma ho ha hb hm (nI x) ch (nI hn) (nI h) lies steps r0 n0 g0 l0 w0 rr = some (z, k', lies', steps', r1, n1, g1, l1, w1) ∧ f_X7_digest rr (nI h) mk mw mt mc ch (nI hn) go ga gb gm (nI n) pg says dl far am om ol oe mh = some (z, mk', s', d', far', am', om', ol', oe', mh') := by
  rcases h2 with h2 | h2
  · subst h2
    obtain ⟨z', k', mk', s', d', p1, p2, p3, p4⟩ := dg_heirs (K := K) (ch := ch) (rr := rr) hW hW2 hh hx hT hmm hn6 hH hH2 hn25 hP hP2 (lies := lies) (steps := steps) (far := far) (r0 := r0) (n0 := n0) (g0 := g0) (l0 := l0) (w0 := w0) (am := am) (om := om) (ol := ol) (oe := oe) 0 300 300 0 907 kinds mk says dl (by omega) (by omega) (by omega) hK hK2
    exact ⟨z', k', mk', s', d', _, _, _, _, _, _, _, _, _, _, _, _, _, p1, p2, (if_pos rfl).trans p3, (if_pos (sle (a := 0) (b := 0))).trans p4⟩
  · obtain ⟨z1, lies1, steps1, says1, far1, r1, n1, g1, l1, w1, am1, om1, ol1, oe1, q1, q2⟩ := dg_has (n := n) (hn := hn) (codes := codes) (ma := ma) (ho := ho) (ha := ha) (hb := hb) (hm := hm) (ch := ch) (rr := rr) hK hW hK2 hW2 h2 hh hx hT (lies := lies) (steps := steps) (says := says) (far := far) (r0 := r0) (n0 := n0) (g0 := g0) (l0 := l0) (w0 := w0) (am := am) (om := om) (ol := ol) (oe := oe) 4 300 300 0 907 (by omega) (by omega) (by omega)
    obtain ⟨z', k', mk', s', d', p1, p2, p3, p4⟩ := dg_heirs (K := K) (ch := ch) (rr := rr) hW hW2 hh hx hT hmm hn6 hH hH2 hn25 hP hP2 (lies := lies1) (steps := steps1) (far := far1) (r0 := r1) (n0 := n1) (g0 := g1) (l0 := l1) (w0 := w1) (am := am1) (om := om1) (ol := ol1) (oe := oe1) h 300 300 0 z1 kinds mk says1 dl (by omega) (by omega) (by omega) hK hK2
    refine ⟨z', k', mk', s', d', lies1, steps1, far1, r1, n1, g1, l1, w1, am1, om1, ol1, oe1, z', p1, p2, ?_, ?_⟩
    · exact (if_neg (nI_ne0 (by omega) (by omega))).trans (q1.trans p3)
    · exact (if_neg (snle (a := h) (b := 0))).trans ((bok q2).trans p4)
