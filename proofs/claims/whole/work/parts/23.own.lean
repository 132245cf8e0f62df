/-! ===== who has it ===== -/
theorem thingOf_ok {h x i : Nat} (hh : h ≤ 4) (hx : x < 4 ^ h) (hi : i < h) : f_X1_thingOf (nI x) (nI h) (nI i) = some (nI (dg h x i)) := (bok (thing_ok hh hx hi)).trans rfl
theorem own_some {h x t i0 : Nat} (hh : h ≤ 4) (hx : x < 4 ^ h) (h0 : i0 < h) (e0 : dg h x i0 = t) (ht : t < 4) (hl : ∀ j, j < i0 → dg h x j ≠ t) :
    ∀ (d n i : Nat), d = i0 - i → i ≤ i0 → d < n → f_X1_ownerOf_2 (nI x) (nI h) n (nI t) (nI i) = some (nI i0) := by
  intro d
  induction d with
  | zero =>
    intro n i hd hi hn
    have h4 : i = i0 := by omega
    subst h4
    obtain ⟨n, rfl⟩ : ∃ m, n = m + 1 := ⟨n - 1, by omega⟩
    refine (if_neg (snle (a := 4) (b := i))).trans ?_
    refine (if_neg (snle (a := h) (b := i))).trans ?_
    refine (bok (thingOf_ok hh hx h0)).trans ?_
    exact if_pos (by rw [e0])
  | succ d ih =>
    intro n i hd hi hn
    obtain ⟨n, rfl⟩ : ∃ m, n = m + 1 := ⟨n - 1, by omega⟩
    have hdl := dg_lt h x i
    refine (if_neg (snle (a := 4) (b := i))).trans ?_
    refine (if_neg (snle (a := h) (b := i))).trans ?_
    refine (bok (thingOf_ok hh hx (by omega))).trans ?_
    refine (if_neg (sne (a := dg h x i) (b := t) (hl i (by omega)))).trans ?_
    rw [nI_1]
    exact ih n (i + 1) (by omega) (by omega) (by omega)
theorem own_none {h x t : Nat} (hh : h ≤ 4) (hx : x < 4 ^ h) (ht : t < 4) (hl : ∀ j, j < h → dg h x j ≠ t) :
    ∀ (d n i : Nat), d = h - i → i ≤ h → d < n → f_X1_ownerOf_2 (nI x) (nI h) n (nI t) (nI i) = some (-1) := by
  intro d
  induction d with
  | zero =>
    intro n i hd hi hn
    have h4 : i = h := by omega
    subst h4
    obtain ⟨n, rfl⟩ : ∃ m, n = m + 1 := ⟨n - 1, by omega⟩
    by_cases q : 4 ≤ i
    · exact if_pos (sle (a := 4) (b := i))
    · refine (if_neg (snle (a := 4) (b := i))).trans ?_
      exact if_pos (sle (a := i) (b := i))
  | succ d ih =>
    intro n i hd hi hn
    obtain ⟨n, rfl⟩ : ∃ m, n = m + 1 := ⟨n - 1, by omega⟩
    have hdl := dg_lt h x i
    refine (if_neg (snle (a := 4) (b := i))).trans ?_
    refine (if_neg (snle (a := h) (b := i))).trans ?_
    refine (bok (thingOf_ok hh hx (by omega))).trans ?_
    refine (if_neg (sne (a := dg h x i) (b := t) (hl i (by omega)))).trans ?_
    rw [nI_1]
    exact ih n (i + 1) (by omega) (by omega) (by omega)
theorem who_step {h x t : Nat} (hh : h ≤ 4) {things : Nat → Int32} (hT : okT h x things) (ht : t < 4) {n i : Nat} {acc : Int32} (hi : i < h) : f_X7_whoHas_4 (nI h) things (n + 1) (nI t) acc (nI i) = f_X7_whoHas_4 (nI h) things n (nI t) (if dg h x i = t then nI i else acc) (nI (i + 1)) := by
  have hdl := dg_lt h x i
  refine (if_neg (snle (a := h) (b := i))).trans ?_
  refine (bok (rd_ok (i := i))).trans ?_
  rw [hT i hi]
  by_cases c : dg h x i = t
  · rw [if_pos c]
    refine (if_pos (by rw [c])).trans ?_
    show f_X7_whoHas_4 (nI h) things n (nI t) (nI i) (nI i + 1) = _
    rw [nI_1]
  · rw [if_neg c]
    refine (if_neg (sne (a := dg h x i) (b := t))).trans ?_
    show f_X7_whoHas_4 (nI h) things n (nI t) acc (nI i + 1) = _
    rw [nI_1]
theorem who_run {h x t : Nat} (hh : h ≤ 4) {things : Nat → Int32} (hT : okT h x things) (ht : t < 4) (v : Int32) (P : Nat → Int32 → Prop) (hend : ∀ a, P h a → a = v) (hstep : ∀ i a, i < h → P i a → P (i + 1) (if dg h x i = t then nI i else a)) :
    ∀ (d n i : Nat) (acc : Int32), d = h - i → i ≤ h → d < n → P i acc → f_X7_whoHas_4 (nI h) things n (nI t) acc (nI i) = some v := by
  intro d
  induction d with
  | zero =>
    intro n i acc hd hi hn hp
    have h4 : i = h := by omega
    subst h4
    obtain ⟨n, rfl⟩ : ∃ m, n = m + 1 := ⟨n - 1, by omega⟩
    rw [hend acc hp]
    exact if_pos (sle (a := i) (b := i))
  | succ d ih =>
    intro n i acc hd hi hn hp
    obtain ⟨n, rfl⟩ : ∃ m, n = m + 1 := ⟨n - 1, by omega⟩
    rw [who_step hh hT ht (by omega)]
    exact ih n (i + 1) _ (by omega) (by omega) (by omega) (hstep i acc (by omega) hp)
theorem owner_eq {h x t : Nat} (hh : h ≤ 4) (hx : okX h x) {things : Nat → Int32} (hT : okT h x things) (ht : t < 4) : ∃ r, f_X1_ownerOf (nI x) (nI h) (nI t) = some r ∧ f_X7_whoHas (nI h) things (nI t) = some r := by
  by_cases hex : ∃ i0, i0 < h ∧ dg h x i0 = t
  · obtain ⟨i0, h0, e0⟩ := hex
    have uniq : ∀ j, j < h → j ≠ i0 → dg h x j ≠ t := fun j hj hne e => hx.2 j hj i0 h0 hne (e.trans e0.symm)
    refine ⟨nI i0, own_some hh hx.1 h0 e0 ht (fun j hj => uniq j (by omega) (by omega)) i0 300 0 (by omega) (by omega) (by omega), ?_⟩
    refine who_run hh hT ht (nI i0) (fun i a => i0 < i → a = nI i0) (fun a ha => ha h0) (fun i a hi ha => ?_) h 300 0 (-1) (by omega) (by omega) (by omega) (fun q => absurd q (by omega))
    intro hlt
    by_cases e : i = i0
    · subst e
      rw [if_pos e0]
    · rw [if_neg (uniq i hi e)]
      exact ha (by omega)
  · have hno : ∀ j, j < h → dg h x j ≠ t := fun j hj e => hex ⟨j, hj, e⟩
    refine ⟨-1, own_none hh hx.1 ht hno h 300 0 (by omega) (by omega) (by omega), ?_⟩
    exact who_run hh hT ht (-1) (fun _ a => a = -1) (fun a ha => ha) (fun i a hi ha => by rw [if_neg (hno i hi)]; exact ha) h 300 0 (-1) (by omega) (by omega) (by omega) rfl
/-! ===== the deal again ===== -/
def ul (h x : Nat) (D : Nat → Nat) : Nat → Nat
  | 0 => 0
  | i + 1 => if dg h x i = D i then ul h x D i else ul h x D i + 1
theorem unlike_loop {h x y : Nat} {D : Nat → Nat} (hh : h ≤ 4) (hx : x < 4 ^ h) (hy : y < 4 ^ h) (hD : ∀ i, i < h → dg h y i = D i) :
    ∀ (d n i : Nat), d = h - i → i ≤ h → d < n → f_X1_unlikeIn_5 (nI h) n (nI x) (nI y) (nI (ul h x D i)) (nI i) = some (nI (ul h x D h)) := by
  intro d
  induction d with
  | zero =>
    intro n i hd hi hn
    have h4 : i = h := by omega
    subst h4
    obtain ⟨n, rfl⟩ : ∃ m, n = m + 1 := ⟨n - 1, by omega⟩
    by_cases q : 4 ≤ i
    · exact if_pos (sle (a := 4) (b := i))
    · refine (if_neg (snle (a := 4) (b := i))).trans ?_
      exact if_pos (sle (a := i) (b := i))
  | succ d ih =>
    intro n i hd hi hn
    obtain ⟨n, rfl⟩ : ∃ m, n = m + 1 := ⟨n - 1, by omega⟩
    have hr := ih n (i + 1) (by omega) (by omega) (by omega)
    rw [show ul h x D (i + 1) = if dg h x i = D i then ul h x D i else ul h x D i + 1 from rfl] at hr
    have d1 := dg_lt h x i
    have d2 := dg_lt h y i
    refine (if_neg (snle (a := 4) (b := i))).trans ?_
    refine (if_neg (snle (a := h) (b := i))).trans ?_
    refine (bok (thing_ok hh hx (by omega))).trans ?_
    refine (bok (thing_ok hh hy (by omega))).trans ?_
    rw [nI_1, nI_1]
    by_cases c : dg h x i = D i
    · rw [if_pos c] at hr
      refine (if_pos (by rw [c, hD i (by omega)])).trans ?_
      exact hr
    · rw [if_neg c] at hr
      refine (if_neg (sne (a := dg h x i) (b := dg h y i) (by rw [hD i (by omega)]; exact c))).trans ?_
      exact hr
theorem dealNow_loop {h : Nat} {K W : Nat → Nat} {kinds worths says dealt : Nat → Int32} (hW : okW W worths) (hh : h ≤ 4) (hDl : okDl K W h dealt) (x : Nat) :
    ∀ (d n i : Nat) (acc : Int32) (things : Nat → Int32), d = h - i → i ≤ h → d < n → okDl K W i things → ∃ r g, okDl K W h g ∧ f_X7_dealNow_8 (nI h) kinds worths n acc (nI i) things says dealt = some (r, g, says, dealt) ∧ ((∀ j, i ≤ j → j < h → things j = nI (dg h x j)) → acc = nI (ul h x (dD K W) i) → r = nI (ul h x (dD K W) h)) := by
  intro d
  induction d with
  | zero =>
    intro n i acc things hd hi hn hT
    have h4 : i = h := by omega
    subst h4
    obtain ⟨n, rfl⟩ : ∃ m, n = m + 1 := ⟨n - 1, by omega⟩
    exact ⟨acc, things, hT, if_pos (sle (a := i) (b := i)), fun _ e => e⟩
  | succ d ih =>
    intro n i acc things hd hi hn hT
    obtain ⟨n, rfl⟩ : ∃ m, n = m + 1 := ⟨n - 1, by omega⟩
    have hd4 := (gn_ok (K := K) hW (i + 1) (by omega)).2.2.1 i (by omega)
    have hnew : okDl K W (i + 1) (upd things i (nI (dD K W i))) := fun j hj => by
      by_cases q : j = i
      · subst q; exact us
      · rw [un q]; exact hT j (by omega)
    obtain ⟨r, g, g1, g2, g3⟩ := ih n (i + 1) (acc + (if things i = nI (dD K W i) then 0 else 1)) (upd things i (nI (dD K W i))) (by omega) (by omega) (by omega) hnew
    refine ⟨r, g, g1, ?_, fun hj e => g3 (fun j h1 h2 => by rw [un (by omega)]; exact hj j (by omega) h2) ?_⟩
    · refine (if_neg (snle (a := h) (b := i))).trans ?_
      refine (bok (rd_ok (i := i))).trans ?_
      refine (bok (rd_ok (i := i))).trans ?_
      rw [hDl i (by omega)]
      by_cases c : things i = nI (dD K W i)
      · rw [if_pos c] at g2
        refine (if_pos c).trans ?_
        refine (bok (rd_ok (i := i))).trans ?_
        rw [hDl i (by omega)]
        refine (bok (wr_ok (i := i))).trans ?_
        rw [nI_1]
        exact g2
      · rw [if_neg c] at g2
        refine (if_neg c).trans ?_
        refine (bok (rd_ok (i := i))).trans ?_
        rw [hDl i (by omega)]
        refine (bok (wr_ok (i := i))).trans ?_
        rw [nI_1]
        exact g2
    · rw [e, hj i (by omega) (by omega), show ul h x (dD K W) (i + 1) = if dg h x i = dD K W i then ul h x (dD K W) i else ul h x (dD K W) i + 1 from rfl]
      have d1 := dg_lt h x i
      by_cases c : dg h x i = dD K W i
      · rw [if_pos c, if_pos (by rw [c])]
        show nI _ + nI 0 = _
        rw [nI_add, Nat.add_zero]
      · rw [if_neg c, if_neg (sne (a := dg h x i) (b := dD K W i))]
        show nI _ + nI 1 = _
        rw [nI_add]
theorem dealNow_ok {h : Nat} {K W : Nat → Nat} {kinds worths things says dealt : Nat → Int32} (hK : okK h K kinds) (hW : okW W worths) (hh : h ≤ 4) (x : Nat) : ∃ r g s e, okT h (lz K W h h) g ∧ f_X7_dealNow (nI h) kinds worths things says dealt = some (r, g, s, e) ∧ (okT h x things → r = nI (ul h x (dD K W) h)) := by
  obtain ⟨s, e, s1, e1, q⟩ := layDeal_ok (says := says) (dealt := dealt) hK hW hh
  obtain ⟨r, g, g1, g2, g3⟩ := dealNow_loop (kinds := kinds) (says := s) hW hh e1 x h 300 0 0 things (by omega) (by omega) (by omega) (fun j hj => absurd hj (by omega))
  refine ⟨r, g, s, e, fun i hi => ?_, (bok q).trans g2, fun hT => g3 (fun j _ hj => hT j hj) rfl⟩
  rw [g1 i hi, (lz_ok (K := K) hW hh h (Nat.le_refl h)).2 i hi]
theorem deal_eq {h : Nat} {K W : Nat → Nat} {kinds worths mk mw things says dealt : Nat → Int32} (hK : okK h K kinds) (hW : okW W worths) (hK2 : okK h K mk) (hW2 : okW W mw) (hh : h ≤ 4) {x : Nat} (hx : okX h x) (hT : okT h x things) : ∃ (r : Int32) (y : Nat) (g s e : Nat → Int32), okX h y ∧ okT h y g ∧ f_X1_dealt kinds worths (nI h) = some (nI y) ∧ f_X1_unlikeIn (nI h) (nI x) (nI y) = some r ∧ f_X7_dealNow (nI h) mk mw things says dealt = some (r, g, s, e) := by
  obtain ⟨r, g, s, e, g1, g2, g3⟩ := dealNow_ok (things := things) (says := says) (dealt := dealt) hK2 hW2 hh x
  refine ⟨r, lz K W h h, g, s, e, okX_deal hW hh, g1, dealt_ok hK hW hh, ?_, g2⟩
  rw [g3 hT]
  exact unlike_loop hh hx.1 (lz_ok (K := K) hW hh h (Nat.le_refl h)).1 (fun i hi => (lz_ok (K := K) hW hh h (Nat.le_refl h)).2 i hi) h 300 0 (by omega) (by omega) (by omega)
/-! ===== which kind would serve ===== -/
def upK (K : Nat → Nat) (i k : Nat) : Nat → Nat := fun j => if j = i then k else K j
theorem okK_up {h : Nat} {K : Nat → Nat} {f g : Nat → Int32} (hK : okK h K f) {i k : Nat} (hk : k < 5) (h1 : g i = nI k) (h2 : ∀ j, j ≠ i → g j = f j) : okK h (upK K i k) g := by
  intro j hj
  unfold upK
  by_cases e : j = i
  · subst e
    rw [if_pos rfl]
    exact ⟨h1, hk⟩
  · rw [if_neg e, h2 j e]
    exact hK j hj
def svI (val : Nat → Nat) : Nat → Int32 × Int32
  | 0 => (-1, -1)
  | k + 1 => if nI (val k) ≤ (svI val k).2 then svI val k else (nI k, nI (val k))
def svV (K W : Nat → Nat) (i : Nat) (k : Nat) : Nat := W (4 * i + dD (upK K i k) W i)
theorem served_loop {h : Nat} {K W : Nat → Nat} {kinds worths : Nat → Int32} (hK : okK h K kinds) (hW : okW W worths) (hh : h ≤ 4) {i : Nat} (hi : i < h) (what own : Int32) :
    ∀ (d n k : Nat) (f : Nat → Int32), d = 5 - k → k ≤ 5 → d < n → (∀ j, j ≠ i → f j = kinds j) → ∃ g, g i = own ∧ (∀ j, j ≠ i → g j = kinds j) ∧ f_X6_served_47 worths (nI h) n (nI i) what own (svI (svV K W i) k).1 (svI (svV K W i) k).2 (nI k) f = some ((if what = 0 then (svI (svV K W i) 5).1 else (svI (svV K W i) 5).2), g) := by
  intro d
  induction d with
  | zero =>
    intro n k f hd hk hn hf
    have h4 : k = 5 := by omega
    subst h4
    obtain ⟨n, rfl⟩ : ∃ m, n = m + 1 := ⟨n - 1, by omega⟩
    refine ⟨upd f i own, us, fun j hj => by rw [un hj]; exact hf j hj, ?_⟩
    refine (if_pos (sle (a := 5) (b := 5))).trans ?_
    refine (bok (set_ok (i := i))).trans ?_
    by_cases c : what = 0
    · refine (if_pos c).trans ?_
      rw [if_pos c]
    · refine (if_neg c).trans ?_
      rw [if_neg c]
  | succ d ih =>
    intro n k f hd hk hn hf
    obtain ⟨n, rfl⟩ : ∃ m, n = m + 1 := ⟨n - 1, by omega⟩
    have hf2 : ∀ j, j ≠ i → (upd f i (nI k)) j = kinds j := fun j hj => by rw [un hj]; exact hf j hj
    have hK2 : okK h (upK K i k) (upd f i (nI k)) := okK_up hK (by omega) us hf2
    obtain ⟨g, g1, g2, g3⟩ := ih n (k + 1) (upd f i (nI k)) (by omega) (by omega) (by omega) hf2
    refine ⟨g, g1, g2, ?_⟩
    refine (if_neg (snle (a := 5) (b := k))).trans ?_
    refine (bok (set_ok (i := i))).trans ?_
    refine (bok (dealt_ok hK2 hW hh)).trans ?_
    refine (bok (worthIn_ok hW hh (lz_ok (K := upK K i k) hW hh h (Nat.le_refl h)).1 hi)).trans ?_
    rw [(lz_ok (K := upK K i k) hW hh h (Nat.le_refl h)).2 i hi, nI_1]
    rw [show svI (svV K W i) (k + 1) = if nI (svV K W i k) ≤ (svI (svV K W i) k).2 then svI (svV K W i) k else (nI k, nI (svV K W i k)) from rfl] at g3
    by_cases c : nI (svV K W i k) ≤ (svI (svV K W i) k).2
    · rw [if_pos c] at g3
      exact (if_pos c).trans g3
    · rw [if_neg c] at g3
      exact (if_neg c).trans g3
theorem mserved_loop {h : Nat} {K W : Nat → Nat} {kinds worths : Nat → Int32} (hK : okK h K kinds) (hW : okW W worths) (hh : h ≤ 4) {i : Nat} (hi : i < h) (what own : Int32) :
    ∀ (d n k : Nat) (f says dealt : Nat → Int32), d = 5 - k → k ≤ 5 → d < n → (∀ j, j ≠ i → f j = kinds j) → ∃ g s e, g i = own ∧ (∀ j, j ≠ i → g j = kinds j) ∧ f_X7_servedNow_16 (nI h) worths n (nI i) what own (svI (svV K W i) k).1 (svI (svV K W i) k).2 (nI k) f says dealt = some ((if what = 0 then (svI (svV K W i) 5).1 else (svI (svV K W i) 5).2), g, s, e) := by
  intro d
  induction d with
  | zero =>
    intro n k f says dealt hd hk hn hf
    have h4 : k = 5 := by omega
    subst h4
    obtain ⟨n, rfl⟩ : ∃ m, n = m + 1 := ⟨n - 1, by omega⟩
    refine ⟨upd f i own, says, dealt, us, fun j hj => by rw [un hj]; exact hf j hj, ?_⟩
    refine (if_pos (sle (a := 5) (b := 5))).trans ?_
    refine (bok (wr_ok (i := i))).trans ?_
    by_cases c : what = 0
    · refine (if_pos c).trans ?_
      rw [if_pos c]
    · refine (if_neg c).trans ?_
      rw [if_neg c]
  | succ d ih =>
    intro n k f says dealt hd hk hn hf
    obtain ⟨n, rfl⟩ : ∃ m, n = m + 1 := ⟨n - 1, by omega⟩
    have hf2 : ∀ j, j ≠ i → (upd f i (nI k)) j = kinds j := fun j hj => by rw [un hj]; exact hf j hj
    have hK2 : okK h (upK K i k) (upd f i (nI k)) := okK_up hK (by omega) us hf2
    obtain ⟨s, e, s1, e1, q⟩ := layDeal_ok (says := says) (dealt := dealt) hK2 hW hh
    have hd4 := (gn_ok (K := upK K i k) hW (i + 1) (by omega)).2.2.1 i (by omega)
    obtain ⟨g, s', e', g1, g2, g3⟩ := ih n (k + 1) (upd f i (nI k)) s e (by omega) (by omega) (by omega) hf2
    refine ⟨g, s', e', g1, g2, ?_⟩
    refine (if_neg (snle (a := 5) (b := k))).trans ?_
    refine (bok (wr_ok (i := i))).trans ?_
    refine (bok q).trans ?_
    refine (bok (rd_ok (i := i))).trans ?_
    rw [e1 i hi, t4n]
    refine (bok (rd_ok (i := 4 * i + dD (upK K i k) W i))).trans ?_
    rw [(hW (4 * i + dD (upK K i k) W i) (by omega)).1]
    rw [show svI (svV K W i) (k + 1) = if nI (svV K W i k) ≤ (svI (svV K W i) k).2 then svI (svV K W i) k else (nI k, nI (svV K W i k)) from rfl] at g3
    by_cases c : nI (svV K W i k) ≤ (svI (svV K W i) k).2
    · rw [if_pos c] at g3
      refine (if_pos c).trans ?_
      refine (if_pos c).trans ?_
      show f_X7_servedNow_16 (nI h) worths n (nI i) what own (svI (svV K W i) k).1 (svI (svV K W i) k).2 (nI k + 1) _ _ _ = _
      rw [nI_1]
      exact g3
    · rw [if_neg c] at g3
      refine (if_neg c).trans ?_
      refine (if_neg c).trans ?_
      show f_X7_servedNow_16 (nI h) worths n (nI i) what own (nI k) (nI (svV K W i k)) (nI k + 1) _ _ _ = _
      rw [nI_1]
      exact g3
theorem okK_back {h : Nat} {K : Nat → Nat} {f g : Nat → Int32} (hK : okK h K f) {i : Nat} (h1 : g i = f i) (h2 : ∀ j, j ≠ i → g j = f j) : okK h K g := by
  intro j hj
  by_cases e : j = i
  · subst e
    rw [h1]; exact hK j hj
  · rw [h2 j e]; exact hK j hj
theorem servedNow_ok {h : Nat} {K W : Nat → Nat} {kinds worths says dealt : Nat → Int32} (hK : okK h K kinds) (hW : okW W worths) (hh : h ≤ 4) {i : Nat} (hi : i < h) (what : Int32) : ∃ g s e, okK h K g ∧ f_X7_servedNow (nI h) kinds worths says dealt (nI i) what = some ((if what = 0 then (svI (svV K W i) 5).1 else (svI (svV K W i) 5).2), g, s, e) := by
  obtain ⟨g, s, e, g1, g2, g3⟩ := mserved_loop hK hW hh hi what (kinds i) 5 300 0 kinds says dealt (by omega) (by omega) (by omega) (fun _ _ => rfl)
  exact ⟨g, s, e, okK_back hK g1 g2, (bok (rd_ok (i := i))).trans g3⟩
theorem cserved_ok {h : Nat} {K W : Nat → Nat} {kinds worths : Nat → Int32} (hK : okK h K kinds) (hW : okW W worths) (hh : h ≤ 4) {i : Nat} (hi : i < h) (what : Int32) : ∃ g, okK h K g ∧ (f_X3_get 4 kinds (nI i)).bind (fun v6 => f_X6_served_47 worths (nI h) 300 (nI i) what v6 (-1) (-1) 0 kinds) = some ((if what = 0 then (svI (svV K W i) 5).1 else (svI (svV K W i) 5).2), g) := by
  obtain ⟨g, g1, g2, g3⟩ := served_loop hK hW hh hi what (kinds i) 5 300 0 kinds (by omega) (by omega) (by omega) (fun _ _ => rfl)
  exact ⟨g, okK_back hK g1 g2, (bok (get_ok (i := i))).trans g3⟩
