/-! ===== words of ours: contracts that say the answer and the cells exactly ===== -/
/-- links to private members of nest mates -/
def nwF : List (String × Nat × String × String × String × String) := [(RX6, 44, "HeirsInsulted$Page", "letters", "I", "HeirsInsulted"), (RX6, 69, "HeirsInsulted$Estate", "now", "LHeirsInsulted$Standing;", "HeirsInsulted"), (RX6, 72, "HeirsInsulted$Standing", "worths", "LHeirsInsulted$Table;", "HeirsInsulted"), (RX6, 85, "HeirsInsulted$Estate", "kinds", "LHeirsInsulted$Row;", "HeirsInsulted"), (RX6, 98, "HeirsInsulted$Standing", "lie", "I", "HeirsInsulted"), (RX6, 105, "HeirsInsulted$Standing", "made", "LHeirsInsulted$Row;", "HeirsInsulted"), (RX6, 111, "HeirsInsulted$Estate", "heirs", "I", "HeirsInsulted"), (RX6, 141, "HeirsInsulted$Standing", "changes", "I", "HeirsInsulted"), (RX6, 148, "HeirsInsulted$Ends", "number", "I", "HeirsInsulted"), (RX6, 151, "HeirsInsulted$Ends", "greatest", "I", "HeirsInsulted"), (RX6, 154, "HeirsInsulted$Ends", "least", "I", "HeirsInsulted"), (RX6, 157, "HeirsInsulted$Ends", "fewest", "I", "HeirsInsulted"), (RX6, 175, "HeirsInsulted$Standing", "heard", "I", "HeirsInsulted"), (RX6, 222, "HeirsInsulted$Page", "codes", "LHeirsInsulted$Row;", "HeirsInsulted"), (RX0, 30, "HeirsInsulted$Estate", "now", "LHeirsInsulted$Standing;", "HeirsInsulted"), (RX0, 36, "HeirsInsulted$Standing", "lie", "I", "HeirsInsulted"), (RX0, 59, "HeirsInsulted$Estate", "heirs", "I", "HeirsInsulted"), (RX1, 41, "HeirsInsulted$Standing", "worths", "LHeirsInsulted$Table;", "HeirsInsulted"), (RX1, 62, "HeirsInsulted$Standing", "lie", "I", "HeirsInsulted"), (RX1, 109, "HeirsInsulted$Standing", "heard", "I", "HeirsInsulted"), (RX1, 112, "HeirsInsulted$Standing", "heardThing", "LHeirsInsulted$Row;", "HeirsInsulted"), (RX1, 115, "HeirsInsulted$Standing", "heardOther", "LHeirsInsulted$Row;", "HeirsInsulted"), (RX1, 118, "HeirsInsulted$Standing", "heardMore", "LHeirsInsulted$Row;", "HeirsInsulted"), (RX1, 121, "HeirsInsulted$Standing", "heardOf", "LHeirsInsulted$Row;", "HeirsInsulted")]
def nwM : List (String × Nat × MethodName × String) := [(RX6, 11, yX2_init, "HeirsInsulted"), (RX6, 18, yX1_init, "HeirsInsulted"), (RX6, 25, yX0_init, "HeirsInsulted"), (RX6, 32, yX4_init, "HeirsInsulted"), (RX1, 22, yX4_init, "HeirsInsulted"), (RX4, 11, yX5_init, "HeirsInsulted")]
/-- the String constant of Page and the one static that its indexOf reads: outside A -/
def kz (kK kV : Nat → Nat) (A : Nat → Prop) (U : State) (H : Heap) : Prop := vk_R RX2 43 "hspla" (kK 0) U ∧ vk_S 1 [5] [[104, 115, 112, 108, 97]] kK kV A U H ∧ va_Z "java/lang/String" "COMPACT_STRINGS" "Z" (.int 1) A U H ∧ (∀ q ∈ nwF, va_Nw (.fieldLinkNest q.1 q.2.1 q.2.2.1 q.2.2.2.1 q.2.2.2.2.1 q.2.2.2.2.2) U) ∧ (∀ q ∈ nwM, va_Nw (.methodLinkNest q.1 q.2.1 q.2.2.1 q.2.2.2) U)
theorem kz.go {kK kV : Nat → Nat} {A B : Nat → Prop} {s U : State} {H : Heap} {locs : List Loc} (h : kz kK kV A s s.heap) (hS : va_S A s.heap H locs) (hW : s.WarmedH U.vm) (hAB : ∀ q, B q → A q) : kz kK kV B U H :=
  ⟨vk_R.warm hW h.1, ((h.2.1.moved hW.alike).kept hS.2.1).narrow hAB, ((h.2.2.1.moved hW.alike).kept hS.2.1).narrow hAB, fun q hq => va_Nw.warmF hW (h.2.2.2.1 q hq), fun q hq => va_Nw.warmM hW (h.2.2.2.2 q hq)⟩
theorem kz.call {kK kV : Nat → Nat} {A : Nat → Prop} {U U' : State} {H : Heap} (hv : U'.vm = U.vm) (h : kz kK kV A U H) : kz kK kV A U' H :=
  ⟨vk_R.same hv h.1, h.2.1.moved (by rw [hv]; exact Vm.Alike.refl _), h.2.2.1.moved (by rw [hv]; exact Vm.Alike.refl _), fun q hq => va_Nw.same rfl hv.symm (h.2.2.2.1 q hq), fun q hq => va_Nw.same rfl hv.symm (h.2.2.2.2 q hq)⟩
/-- what stands fixed while a method's body runs -/
def Fx (p : Program) (m : MethodId) (c : Code) (s : State) (meth : Method) (args : Array Value) (cc : ByteArray) (nL : Nat) (own : String) (Ts : List Cond) (ret : Option FieldType) (D : va_G) (cI cB : ClassId) (kK kV : Nat → Nat) (A : Nat → Prop) : Prop :=
  p.tables.exec = Jvm.exec ∧ c.code = cc ∧ c.maxLocals = nL ∧ s.vm.findClass own = some m.cls ∧ (∀ w ∈ Ts, w.before args s = true) ∧ meth.sig.returnType = ret ∧ meth.locks = false ∧ va_K D vwCl [(cI, .int), (cB, .byte)] s ∧ (∀ q : Nat, s.heap.size ≤ q → A q) ∧ kz kK kV A s s.heap
def Pq (D : va_G) (cI cB : ClassId) (kK kV : Nat → Nat) (av : List Value) (w : va_W) (sz : Nat) : Array Value → State → Prop := va_Pc av (fun U => U.heap.size = sz ∧ va_P D vwCl w U.heap ∧ va_K D vwCl [(cI, .int), (cB, .byte)] U ∧ va_D (fun _ => True) w ∧ kz kK kV (va_A w sz) U U.heap)
def Qq (D : va_G) (w' : va_W) (o : Option Value) (A : Nat → Prop) : Array Value → State → Outcome → State → Prop := fun _ st oc t => (oc = .returned o ∧ va_P D vwCl w' t.heap) ∧ va_F A st t
/-- the contract: with the cells w it answers o and leaves the cells w' -/
def Ct (l : Launch) (y : MethodName) (ws : List Cond) (rm : Room) (D : va_G) (cI cB : ClassId) (kK kV : Nat → Nat) (av : List Value) (w w' : va_W) (o : Option Value) : Prop :=
  w'.map Prod.fst = w.map Prod.fst ∧ ∀ sz : Nat, Met l y ws rm (Pq D cI cB kK kV av w sz) (Qq D w' o (va_A w sz)) 0 0 (va_A w sz)
def Zq (D : va_G) (below : List Frame) (args : Array Value) (s : State) (A : Nat → Prop) (w' : va_W) (o : Option Value) : State → Prop := MQ below (Qq D w' o A) args s 0 0 A
theorem Pq.blind {D : va_G} {cI cB : ClassId} {kK kV : Nat → Nat} {av : List Value} {w : va_W} {sz : Nat} : FrameBlind (Pq D cI cB kK kV av w sz) := by
  intro a U g mk h
  obtain ⟨h1, h2, h3, h4, h5, h6⟩ := h
  exact ⟨h1, h2, h3, va_K.moved (u := U) (U := U.calling g mk a) (Vm.Alike.refl U.vm) h4, h5, kz.call rfl h6⟩
theorem Ct.of {l : Launch} {y : MethodName} {ws ws0 : List Cond} {rm : Room} {D : va_G} {cI cB : ClassId} {kK kV : Nat → Nat} {av : List Value} {w w' : va_W} {o : Option Value} {cc : ByteArray} {maxL : Nat} {ret : Option FieldType}
    (hy : plainName y.cls = true) (hw : ws = Cond.code y cc maxL ret :: ws0) (hlen : (lg_sl av).length ≤ maxL) (had : w'.map Prod.fst = w.map Prod.fst)
    (body : ∀ (p : Program) (e : Env) (s : State) (m : MethodId) (below : List Frame) (meth : Method) (c : Code) (A : Nat → Prop) (ls : Array Slot), Fx p m c s meth av.toArray cc maxL y.cls ws ret D cI cB kK kV A → va_P D vwCl w s.heap → va_D A w → va_S A s.heap s.heap [] → lv_has ls maxL (lv_args 0 av) → W p l e rm s m av.toArray below meth c s.heap [] 0 0 (Zq D below av.toArray s A w' o) (F0 m 0 ls [])) : Ct l y ws rm D cI cB kK kV av w w' o := by
  refine ⟨had, ?_⟩
  intro sz
  refine Met.ofW (cc := cc) (maxL := maxL) (ret := ret) hy hw ?_
  intro p e s m args below meth c s₁ B hml hv
  obtain ⟨rfl, hsz, hP, hK, hD0, hZ⟩ := hv
  subst hsz
  have hl := lv_entry av (n := maxL) hlen
  rw [lg_entry_eq]
  exact body p e s m below meth c (va_A w s.heap.size) _ ⟨B.exec, B.bytes, hml, findClass_of_methodNamed B.named, atoms_spec (ws := ws) B.pre, B.returns, B.notSynchronized, hK, fun q h => Or.inr h, hZ⟩ hP (hD0.self (sz := s.heap.size)) va_S.rf hl
/-- cells apart, by the list of addresses -/
theorem vaD_nd {A : Nat → Prop} {ws : va_W} (h : va_D A ws) : (ws.map Prod.fst).Nodup := by
  refine List.pairwise_iff_getElem.mpr ?_
  intro i j hi hj hij he
  have hi' : i < ws.length := by rw [List.length_map] at hi; exact hi
  have hj' : j < ws.length := by rw [List.length_map] at hj; exact hj
  rw [List.getElem_map, List.getElem_map] at he
  have := h.1 i j ws[i] ws[j] (List.getElem?_eq_getElem hi') (List.getElem?_eq_getElem hj') he
  omega
theorem vaD_of {A : Nat → Prop} {ws : va_W} (hn : (ws.map Prod.fst).Nodup) (ha : ∀ q ∈ ws, A q.1) : va_D A ws := by
  refine ⟨fun i j p q hi hj hpq => ?_, fun k q hk => ha q (List.mem_of_getElem? hk)⟩
  have h1 : (ws.map Prod.fst)[i]? = some p.1 := by rw [List.getElem?_map, hi]; rfl
  have h2 : (ws.map Prod.fst)[j]? = some q.1 := by rw [List.getElem?_map, hj]; rfl
  have hlt : i < (ws.map Prod.fst).length := by rw [List.length_map]; exact (List.getElem?_eq_some_iff.mp hi).1
  exact (List.getElem?_inj hlt hn).mp (h1.trans (by rw [hpq]; exact h2.symm))
theorem vaD_mem {A : Nat → Prop} {ws : va_W} (h : va_D A ws) : ∀ q ∈ ws, A q.1 := by
  intro q hq
  obtain ⟨i, hi⟩ := List.getElem?_of_mem hq
  exact h.2 i q hi
theorem vaP_mem {D : va_G} {cl : List vw_C} {ws : va_W} {H : Heap} (h : va_P D cl ws H) : ∀ q ∈ ws, va_at D cl q H := by
  intro q hq
  obtain ⟨i, hi⟩ := List.getElem?_of_mem hq
  exact h i q hi
theorem vaP_of {D : va_G} {cl : List vw_C} {ws : va_W} {H : Heap} (h : ∀ q ∈ ws, va_at D cl q H) : va_P D cl ws H := fun _ q hk => h q (List.mem_of_getElem? hk)
theorem vaA_iff {ws : va_W} {sz q : Nat} : va_A ws sz q ↔ q ∈ ws.map Prod.fst ∨ sz ≤ q := by
  constructor
  · rintro (⟨k, e, h⟩ | h)
    · exact Or.inl (List.mem_map.mpr ⟨(q, e), List.mem_of_getElem? h, rfl⟩)
    · exact Or.inr h
  · rintro (h | h)
    · obtain ⟨x, hx, rfl⟩ := List.mem_map.mp h
      obtain ⟨k, hk⟩ := List.getElem?_of_mem hx
      exact Or.inl ⟨k, x.2, hk⟩
    · exact Or.inr h
/-- a callee's cells among the caller's: all, none, one stretch, two stretches -/
theorem pm0 (w : va_W) : (w ++ []).Perm w := by rw [List.append_nil]
theorem pmE (w : va_W) : (([] : va_W) ++ w).Perm w := List.Perm.refl _
theorem pm1 {X wc Y ws : va_W} (h : ws = X ++ (wc ++ Y)) : (wc ++ (X ++ Y)).Perm ws := by
  subst h
  exact List.perm_append_comm_assoc wc X Y
theorem pm2 {X w1 Z w2 Y ws : va_W} (h : ws = X ++ (w1 ++ (Z ++ (w2 ++ Y)))) : ((w1 ++ w2) ++ (X ++ (Z ++ Y))).Perm ws := by
  subst h
  refine (List.perm_append_comm_assoc (w1 ++ w2) X (Z ++ Y)).trans ?_
  rw [List.append_assoc]
  exact List.Perm.append_left X (List.Perm.append_left w1 (List.perm_append_comm_assoc w2 Z Y))
theorem pm2r {X w2 Z w1 Y ws : va_W} (h : ws = X ++ (w2 ++ (Z ++ (w1 ++ Y)))) : ((w1 ++ w2) ++ (X ++ (Z ++ Y))).Perm ws :=
  (List.Perm.append_right _ List.perm_append_comm).trans (pm2 h)
/-- behind a call: the callee's cells as it left them, the others as they were -/
theorem wback {A0 : Nat → Prop} {D : va_G} {cl : List vw_C} {ws ws' wc wc' rs : va_W} {H H1 : Heap} (hP : va_P D cl ws H) (hD : va_D A0 ws) (hp : (wc ++ rs).Perm ws) (hp' : (wc' ++ rs).Perm ws') (hfst : wc'.map Prod.fst = wc.map Prod.fst)
    (hk : ∀ q : Nat, q < H.size → ¬ va_A wc H.size q → H1[q]? = H[q]?) (hP1 : va_P D cl wc' H1) : va_P D cl ws' H1 ∧ va_D A0 ws' := by
  have hn : ((wc ++ rs).map Prod.fst).Nodup := (hp.map Prod.fst).nodup_iff.mpr (vaD_nd hD)
  have hn' := hn
  rw [List.map_append] at hn
  obtain ⟨h1, h2, h3⟩ := List.nodup_append.mp hn
  constructor
  · refine vaP_of fun q hq => ?_
    rcases List.mem_append.mp (hp'.mem_iff.mpr hq) with h | h
    · exact vaP_mem hP1 q h
    · have hw := vaP_mem hP q (hp.mem_iff.mp (List.mem_append_right _ h))
      refine hw.kept (hk q.1 hw.lt fun hA => ?_)
      rcases vaA_iff.mp hA with hA | hA
      · exact h3 _ hA _ (List.mem_map.mpr ⟨q, h, rfl⟩) rfl
      · exact Nat.not_le.mpr hw.lt hA
  · refine vaD_of ?_ fun q hq => ?_
    · refine (hp'.map Prod.fst).nodup_iff.mp ?_
      rw [List.map_append, hfst, ← List.map_append]
      exact hn'
    · rcases List.mem_append.mp (hp'.mem_iff.mpr hq) with h | h
      · have h4 : q.1 ∈ wc.map Prod.fst := by rw [← hfst]; exact List.mem_map.mpr ⟨q, h, rfl⟩
        obtain ⟨x, hx, hxe⟩ := List.mem_map.mp h4
        rw [← hxe]
        exact vaD_mem hD x (hp.mem_iff.mp (List.mem_append_left _ hx))
      · exact vaD_mem hD q (hp.mem_iff.mp (List.mem_append_right _ h))
/-- addresses moved by k -/
def sh (ad : Nat → Nat) (k : Nat) : Nat → Nat := fun i => ad (i + k)
section BASE
variable {p : Program} {l : Launch} {e : Env} {R : Room} {s : State} {m : MethodId} {args : Array Value} {below : List Frame} {meth : Method} {c : Code} {H : Heap} {locs : List Loc} {Q : State → Prop} {cc : ByteArray} {nL : Nat} {own : String} {Ts : List Cond} {ret : Option FieldType} {D : va_G} {cI cB : ClassId} {kK kV : Nat → Nat} {A : Nat → Prop}
variable {pc : Nat} {ls : Array Slot} {rest st : List Value} {ws : va_W}
theorem cfree (F : Fx p m c s meth args cc nL own Ts ret D cI cB kK kV A) (hD : va_D A ws) (hS : va_S A s.heap H locs) {wc rs : va_W} (hp : (wc ++ rs).Perm ws) : ∀ q, va_A wc H.size q → A q := by
  obtain ⟨hx, hb, hml, hown, hts, hrt, hlocks, hK, hA, hZ⟩ := F
  intro q hq
  rcases vaA_iff.mp hq with h | h
  · obtain ⟨x, hx, rfl⟩ := List.mem_map.mp h
    exact vaD_mem hD x (hp.mem_iff.mp (List.mem_append_left _ hx))
  · exact hA q (Nat.le_trans hS.1 h)
theorem crun {ws' wc wc' rs : va_W} {a : Array Value} {o : Option Value} (F : Fx p m c s meth args cc nL own Ts ret D cI cB kK kV A) (hP : va_P D vwCl ws H) (hD : va_D A ws) (hS : va_S A s.heap H locs)
    (hr : va_Run p l e R s m args below meth c H locs 0 0 0 0 (F0 m pc ls st) rest (Qq D wc' o (va_A wc H.size) a) (va_A wc H.size)) (hp : (wc ++ rs).Perm ws) (hp' : (wc' ++ rs).Perm ws') (hfst : wc'.map Prod.fst = wc.map Prod.fst)
    (kk : ∀ (H1 : Heap) (locs1 : List Loc), va_P D vwCl ws' H1 → va_D A ws' → va_S A s.heap H1 locs1 → W p l e R s m args below meth c H1 locs1 0 0 Q (F0 m (pc + 3) ls (o.toList ++ rest))) : W p l e R s m args below meth c H locs 0 0 Q (F0 m pc ls st) := by
  have hFc := cfree F hD hS hp
  obtain ⟨hx, hb, hml, hown, hts, hrt, hlocks, hK, hA, hZ⟩ := F
  intro T hT X
  obtain ⟨v, st₀, t, T', L, h0, X', hL, e1, e2, ⟨⟨hv, hPw⟩, hz, hk⟩, stp⟩ := hr T hT X
  cases hv
  rw [h0] at hz hk
  obtain ⟨hP', hD'⟩ := wback hP hD hp hp' hfst (H1 := T'.heap) (fun q h1 h2 => by rw [e1]; exact hk q h1 h2) (by rw [e1]; exact hPw)
  obtain ⟨t2, a1, b1⟩ := kk T'.heap (locs ++ L) hP' hD'
    ⟨Nat.le_trans hS.1 (by rw [e1]; exact hz), fun q h1 h2 => by rw [e1, hk q (Nat.lt_of_lt_of_le h1 hS.1) (fun z => h2 (hFc q z))]; exact hS.2.1 q h1 h2, fun q hq => by
      rcases List.mem_append.mp hq with h | h
      · exact hS.2.2 q h
      · exact hFc _ (hL q h)⟩ T' rfl X'
  exact ⟨t2, stp t2 a1, b1⟩
theorem cpre (F : Fx p m c s meth args cc nL own Ts ret D cI cB kK kV A) (hP : va_P D vwCl ws H) (hD : va_D A ws) (hS : va_S A s.heap H locs) {wc rs : va_W} {av : List Value} (hp : (wc ++ rs).Perm ws) : ∀ U : State, U.heap = H → s.WarmedH U.vm → Pq D cI cB kK kV av wc H.size av.toArray U := by
  have hFc := cfree F hD hS hp
  obtain ⟨hx, hb, hml, hown, hts, hrt, hlocks, hK, hA, hZ⟩ := F
  have hn : ((wc ++ rs).map Prod.fst).Nodup := (hp.map Prod.fst).nodup_iff.mpr (vaD_nd hD)
  rw [List.map_append] at hn
  intro U hU hW
  exact ⟨rfl, by rw [hU], by rw [hU]; exact vaP_of fun q hq => vaP_mem hP q (hp.mem_iff.mp (List.mem_append_left _ hq)), va_K.moved hW.alike hK, vaD_of (List.nodup_append.mp hn).1 (fun _ _ => trivial), by rw [hU]; exact kz.go hZ hS hW hFc⟩
/-- a call of an instance method, by what is known of its receiver -/
theorem cR (F : Fx p m c s meth args cc nL own Ts ret D cI cB kK kV A) (hP : va_P D vwCl ws H) (hD : va_D A ws) (hS : va_S A s.heap H locs) {y : MethodName} {wsc wsc' : List Cond} {rm : Room} {b : Nat} {As : List Value} {ws' wc wc' rs : va_W} {o : Option Value}
    (hM : Ct l y wsc rm D cI cB kK kV (.ref b :: As) wc wc' o) {C : String} {idx maxL n : Nat} {bytes : ByteArray} {rt : Option FieldType} (hG : GoodIn Ts (wsV own idx C y wsc)) (hw : wsc = Cond.code y bytes maxL rt :: wsc') (hrc : rm.cells = 0 ∧ rm.slots = 0)
    (hd : y.cls = C ∧ y.cls ≠ "java/lang/invoke/MethodHandle" ∧ y.cls ≠ "java/lang/invoke/VarHandle" ∧ (parseMethodDescriptor y.desc).map (fun d => d.parameters.length) = some n) (hRm : rm.frames + 1 ≤ R.frames ∧ 8 + (maxL + 11) + rm.locals ≤ R.locals)
    (hrv : ∃ cellB : Cell, H[b]? = some cellB ∧ cellB.vm.isStatics = false ∧ s.vm.findClass C = some cellB.cls) (hn : As.length = n) (hl : ls.size = nL) (hst : st = As.reverse ++ .ref b :: rest) (hroom : (rest.map fun v => v.category).sum ≤ 8) (hdg : decode cc pc = .ok (.invokevirtual idx, 3))
    (hp : (wc ++ rs).Perm ws) (hp' : (wc' ++ rs).Perm ws')
    (kk : ∀ (H1 : Heap) (locs1 : List Loc), va_P D vwCl ws' H1 → va_D A ws' → va_S A s.heap H1 locs1 → W p l e R s m args below meth c H1 locs1 0 0 Q (F0 m (pc + 3) ls (o.toList ++ rest))) : W p l e R s m args below meth c H locs 0 0 Q (F0 m pc ls st) := by
  obtain ⟨hx, hb, hml, hown, hts, hrt, hlocks, hK, hA, hZ⟩ := id F
  exact crun F hP hD hS (va_runV (As := As) (rest := rest) ⟨hx, hb, hml, hown, hts⟩ (hM.2 H.size) (cwV n hts hG hw hrc.1 hrc.2 hd hRm) ⟨Pq.blind, hrv, cpre F hP hD hS hp⟩ rfl hn hl hst (lv_room hroom) hdg ⟨Nat.zero_le _, Nat.zero_le _⟩) hp hp' hM.1 kk
/-- a call of an instance method of a cell -/
theorem cV (F : Fx p m c s meth args cc nL own Ts ret D cI cB kK kV A) (hP : va_P D vwCl ws H) (hD : va_D A ws) (hS : va_S A s.heap H locs) {y : MethodName} {wsc wsc' : List Cond} {rm : Room} {b : Nat} {As : List Value} {ws' wc wc' rs : va_W} {o : Option Value}
    (hM : Ct l y wsc rm D cI cB kK kV (.ref b :: As) wc wc' o) {C : String} {idx maxL n : Nat} {bytes : ByteArray} {rt : Option FieldType} (hG : GoodIn Ts (wsV own idx C y wsc)) (hw : wsc = Cond.code y bytes maxL rt :: wsc') (hrc : rm.cells = 0 ∧ rm.slots = 0)
    (hd : y.cls = C ∧ y.cls ≠ "java/lang/invoke/MethodHandle" ∧ y.cls ≠ "java/lang/invoke/VarHandle" ∧ (parseMethodDescriptor y.desc).map (fun d => d.parameters.length) = some n) (hRm : rm.frames + 1 ≤ R.frames ∧ 8 + (maxL + 11) + rm.locals ≤ R.locals)
    (q0 ci : Nat) {T : u_T} {N : Nat} {fs : List Value} (hc : vwCl[ci]? = some (C, T, N)) (he : ws[q0]? = some (b, .inr (ci, fs))) (hn : As.length = n) (hl : ls.size = nL) (hst : st = As.reverse ++ .ref b :: rest) (hroom : (rest.map fun v => v.category).sum ≤ 8) (hdg : decode cc pc = .ok (.invokevirtual idx, 3))
    (hp : (wc ++ rs).Perm ws) (hp' : (wc' ++ rs).Perm ws')
    (kk : ∀ (H1 : Heap) (locs1 : List Loc), va_P D vwCl ws' H1 → va_D A ws' → va_S A s.heap H1 locs1 → W p l e R s m args below meth c H1 locs1 0 0 Q (F0 m (pc + 3) ls (o.toList ++ rest))) : W p l e R s m args below meth c H locs 0 0 Q (F0 m pc ls st) := by
  obtain ⟨hx, hb, hml, hown, hts, hrt, hlocks, hK, hA, hZ⟩ := id F
  exact cR F hP hD hS hM hG hw hrc hd hRm (va_recv hK hP hc he) hn hl hst hroom hdg hp hp' kk
/-- a call of a static method -/
theorem cS (F : Fx p m c s meth args cc nL own Ts ret D cI cB kK kV A) (hP : va_P D vwCl ws H) (hD : va_D A ws) (hS : va_S A s.heap H locs) {y : MethodName} {wsc wsc' : List Cond} {rm : Room} {As : List Value} {ws' wc wc' rs : va_W} {o : Option Value}
    (hM : Ct l y wsc rm D cI cB kK kV As wc wc' o) {idx maxL n : Nat} {bytes : ByteArray} {rt : Option FieldType} (hG : GoodIn Ts (va_wsS own idx y wsc)) (hw : wsc = Cond.code y bytes maxL rt :: wsc') (hrc : rm.cells = 0 ∧ rm.slots = 0)
    (hd : y.cls ≠ "java/lang/invoke/MethodHandle" ∧ y.cls ≠ "java/lang/invoke/VarHandle" ∧ (parseMethodDescriptor y.desc).map (fun d => d.parameters.length) = some n) (hRm : rm.frames + 1 ≤ R.frames ∧ 8 + (maxL + 11) + rm.locals ≤ R.locals)
    (hn : As.length = n) (hl : ls.size = nL) (hst : st = As.reverse ++ rest) (hroom : (rest.map fun v => v.category).sum ≤ 8) (hdg : decode cc pc = .ok (.invokestatic idx, 3))
    (hp : (wc ++ rs).Perm ws) (hp' : (wc' ++ rs).Perm ws')
    (kk : ∀ (H1 : Heap) (locs1 : List Loc), va_P D vwCl ws' H1 → va_D A ws' → va_S A s.heap H1 locs1 → W p l e R s m args below meth c H1 locs1 0 0 Q (F0 m (pc + 3) ls (o.toList ++ rest))) : W p l e R s m args below meth c H locs 0 0 Q (F0 m pc ls st) := by
  obtain ⟨hx, hb, hml, hown, hts, hrt, hlocks, hK, hA, hZ⟩ := id F
  exact crun F hP hD hS (va_runS (As := As) (rest := rest) ⟨hx, hb, hml, hown, hts⟩ (hM.2 H.size) (va_cwS n hts hG hw hrc.1 hrc.2 hd hRm) ⟨Pq.blind, cpre F hP hD hS hp⟩ rfl hn hl hst (lv_room hroom) hdg ⟨Nat.zero_le _, Nat.zero_le _⟩) hp hp' hM.1 kk
theorem ret_i {w' : va_W} {v : Int32} (F : Fx p m c s meth args cc nL own Ts (some .int) D cI cB kK kV A) (hP : va_P D vwCl w' H) (hS : va_S A s.heap H locs) (hdg : decode cc pc = .ok (.ireturn, 1)) : W p l e R s m args below meth c H locs 0 0 (Zq D below args s A w' (some (.int v))) (F0 m pc ls [.int v]) := by
  obtain ⟨hx, hb, hml, hown, hts, hrt, hlocks, hK, hA, hZ⟩ := F
  exact W.iret hx hb hrt (fun t ht hW => ⟨⟨rfl, by rw [ht]; exact hP⟩, hS.F ht⟩) hS.2.2 hdg hlocks
theorem ret_z {w' : va_W} {v : Int32} {ty : FieldType} (F : Fx p m c s meth args cc nL own Ts (some ty) D cI cB kK kV A) (hn : narrow ty (.int v) = .int v) (hP : va_P D vwCl w' H) (hS : va_S A s.heap H locs) (hdg : decode cc pc = .ok (.ireturn, 1)) : W p l e R s m args below meth c H locs 0 0 (Zq D below args s A w' (some (.int v))) (F0 m pc ls [.int v]) := by
  obtain ⟨hx, hb, hml, hown, hts, hrt, hlocks, hK, hA, hZ⟩ := F
  exact W.zret hx hb hrt hn (fun t ht hW => ⟨⟨rfl, by rw [ht]; exact hP⟩, hS.F ht⟩) hS.2.2 hdg hlocks
theorem ret_l {w' : va_W} {v : Int64} (F : Fx p m c s meth args cc nL own Ts (some .long) D cI cB kK kV A) (hP : va_P D vwCl w' H) (hS : va_S A s.heap H locs) (hdg : decode cc pc = .ok (.lreturn, 1)) : W p l e R s m args below meth c H locs 0 0 (Zq D below args s A w' (some (.long v))) (F0 m pc ls [.long v]) := by
  obtain ⟨hx, hb, hml, hown, hts, hrt, hlocks, hK, hA, hZ⟩ := F
  exact W.lret hx hb hrt (fun t ht hW => ⟨⟨rfl, by rw [ht]; exact hP⟩, hS.F ht⟩) hS.2.2 hdg hlocks
theorem ret_v {w' : va_W} (F : Fx p m c s meth args cc nL own Ts none D cI cB kK kV A) (hP : va_P D vwCl w' H) (hS : va_S A s.heap H locs) (hdg : decode cc pc = .ok (.return_, 1)) : W p l e R s m args below meth c H locs 0 0 (Zq D below args s A w' none) (F0 m pc ls []) := by
  obtain ⟨hx, hb, hml, hown, hts, hrt, hlocks, hK, hA, hZ⟩ := F
  exact W.vret hx hb hrt (fun t ht hW => ⟨⟨rfl, by rw [ht]; exact hP⟩, hS.F ht⟩) hS.2.2 hdg hlocks
/-- a field is read -/
theorem gf (F : Fx p m c s meth args cc nL own Ts ret D cI cB kK kV A) (hP : va_P D vwCl ws H) {C : String} {T : u_T} {N ci index : Nat} (hin : ∀ w ∈ u_ws C T N, w ∈ Ts) (q0 : Nat) {a : Nat} {fs : List Value} (he : ws[q0]? = some (a, .inr (ci, fs))) (hc : vwCl[ci]? = some (C, T, N)) (k : Nat) (hk : k < N) (i : Nat) (hlink : Ts[i]? = some (Cond.fieldLink own index (T k).1 (T k).2.1 (T k).2.2.1)) {v : Value} (hv : fs[k]? = some v) (hdg : decode cc pc = .ok (.getfield index, 3))
    (kk : W p l e R s m args below meth c H locs 0 0 Q (F0 m (pc + 3) ls (v :: rest))) : W p l e R s m args below meth c H locs 0 0 Q (F0 m pc ls (.ref a :: rest)) := by
  obtain ⟨hx, hb, hml, hown, hts, hrt, hlocks, hK, hA, hZ⟩ := F
  exact va_get hx hb hts hin hown hK hP q0 he hc k hk (hts _ (List.mem_of_getElem? hlink)) (fun _ h9 => h9) hv hdg kk
/-- a field is written -/
theorem pf (F : Fx p m c s meth args cc nL own Ts ret D cI cB kK kV A) (hP : va_P D vwCl ws H) (hD : va_D A ws) (hS : va_S A s.heap H locs) {C : String} {T : u_T} {N ci index : Nat} (hin : ∀ w ∈ u_ws C T N, w ∈ Ts) (ty0 : Nat → FieldType) (hty : ∀ k, k < N → parseFieldDescriptor (T k).2.2.1 = some (ty0 k)) (hnm : ∀ a, a < N → ∀ b, b < N → a ≠ b → (T a).2.1 ≠ (T b).2.1) (q0 : Nat) {a : Nat} {fs : List Value} (he : ws[q0]? = some (a, .inr (ci, fs))) (hc : vwCl[ci]? = some (C, T, N)) (k : Nat) (hk : k < N) (i : Nat) (hlink : Ts[i]? = some (Cond.fieldLink own index (T k).1 (T k).2.1 (T k).2.2.1)) (hfin : (T k).2.2.2 = false) {v : Value} (hn : narrow (ty0 k) v = v) (hfit : fits (ty0 k) v = true) (hl : k < fs.length) (hdg : decode cc pc = .ok (.putfield index, 3)) (ws' : va_W) (hw' : ws.set q0 (a, .inr (ci, fs.set k v)) = ws')
    (kk : ∀ (H1 : Heap) (locs1 : List Loc), va_P D vwCl ws' H1 → va_D A ws' → va_S A s.heap H1 locs1 → W p l e R s m args below meth c H1 locs1 0 0 Q (F0 m (pc + 3) ls rest)) : W p l e R s m args below meth c H locs 0 0 Q (F0 m pc ls (v :: .ref a :: rest)) := by
  obtain ⟨hx, hb, hml, hown, hts, hrt, hlocks, hK, hA, hZ⟩ := F
  subst hw'
  exact va_put hx hb hts hin ty0 hty hnm hown hK hP hD hS q0 he hc k hk (hts _ (List.mem_of_getElem? hlink)) (fun _ h9 => h9) hfin (hty k hk) hn hfit hl hdg kk
/-- numbers out of a row, into a row -/
def rd (f : Nat → Int32) (n : Nat) (i : Int32) : Option Int32 := if 0 ≤ i.toInt ∧ i.toInt < n then some (f i.toNatClampNeg) else none
def wr (f : Nat → Int32) (n : Nat) (i x : Int32) : Option (Nat → Int32) := if 0 ≤ i.toInt ∧ i.toInt < n then some (upd f i.toNatClampNeg x) else none
theorem rd_some {f : Nat → Int32} {n : Nat} {i v : Int32} (h : rd f n i = some v) : vp_in i n ∧ f i.toNatClampNeg = v := by
  unfold rd at h
  split at h
  · rename_i hc
    exact ⟨vp_in_iff.mpr hc, Option.some.inj h⟩
  · cases h
theorem wr_some {f g : Nat → Int32} {n : Nat} {i x : Int32} (h : wr f n i x = some g) : vp_in i n ∧ upd f i.toNatClampNeg x = g := by
  unfold wr at h
  split at h
  · rename_i hc
    exact ⟨vp_in_iff.mpr hc, Option.some.inj h⟩
  · cases h
theorem bnd {α β : Type} {a : Option α} {k : α → Option β} {r : β} (h : a.bind k = some r) : ∃ v, a = some v ∧ k v = some r := by
  cases a with
  | none => cases h
  | some v => exact ⟨v, rfl, h⟩
theorem ald (F : Fx p m c s meth args cc nL own Ts ret D cI cB kK kV A) (hP : va_P D vwCl ws H) (q0 : Nat) {a n : Nat} {f : Nat → Int32} {i v : Int32} (ha : ws[q0]? = some (a, .inl (cI, n, .inl f))) (hv : rd f n i = some v) (hdg : decode cc pc = .ok (.iaload, 1))
    (kk : W p l e R s m args below meth c H locs 0 0 Q (F0 m (pc + 1) ls (.int v :: rest))) : W p l e R s m args below meth c H locs 0 0 Q (F0 m pc ls (.int i :: .ref a :: rest)) := by
  obtain ⟨hx, hb, hml, hown, hts, hrt, hlocks, hK, hA, hZ⟩ := F
  obtain ⟨hin, rfl⟩ := rd_some hv
  exact va_iald hx hb hK hP q0 0 ha rfl hin hdg kk
theorem bld (F : Fx p m c s meth args cc nL own Ts ret D cI cB kK kV A) (hP : va_P D vwCl ws H) (q0 : Nat) {a n : Nat} {f : Nat → Int32} {i v : Int32} (ha : ws[q0]? = some (a, .inl (cB, n, .inl f))) (hv : rd f n i = some v) (hdg : decode cc pc = .ok (.baload, 1))
    (kk : W p l e R s m args below meth c H locs 0 0 Q (F0 m (pc + 1) ls (.int v :: rest))) : W p l e R s m args below meth c H locs 0 0 Q (F0 m pc ls (.int i :: .ref a :: rest)) := by
  obtain ⟨hx, hb, hml, hown, hts, hrt, hlocks, hK, hA, hZ⟩ := F
  obtain ⟨hin, rfl⟩ := rd_some hv
  exact va_bald hx hb hK hP q0 1 ha rfl hin hdg kk
theorem ast (F : Fx p m c s meth args cc nL own Ts ret D cI cB kK kV A) (hP : va_P D vwCl ws H) (hD : va_D A ws) (hS : va_S A s.heap H locs) (q0 : Nat) {a n : Nat} {f g : Nat → Int32} {i x : Int32} (ha : ws[q0]? = some (a, .inl (cI, n, .inl f))) (hv : wr f n i x = some g) (hdg : decode cc pc = .ok (.iastore, 1)) (ws' : va_W) (hw' : ws.set q0 (a, .inl (cI, n, .inl g)) = ws')
    (kk : ∀ (H1 : Heap) (locs1 : List Loc), va_P D vwCl ws' H1 → va_D A ws' → va_S A s.heap H1 locs1 → W p l e R s m args below meth c H1 locs1 0 0 Q (F0 m (pc + 1) ls rest)) : W p l e R s m args below meth c H locs 0 0 Q (F0 m pc ls (.int x :: .int i :: .ref a :: rest)) := by
  obtain ⟨hx, hb, hml, hown, hts, hrt, hlocks, hK, hA, hZ⟩ := F
  obtain ⟨hin, rfl⟩ := wr_some hv
  subst hw'
  exact va_iast hx hb hK hP hD hS q0 0 ha rfl hin hdg kk
theorem bst (F : Fx p m c s meth args cc nL own Ts ret D cI cB kK kV A) (hP : va_P D vwCl ws H) (hD : va_D A ws) (hS : va_S A s.heap H locs) (q0 : Nat) {a n : Nat} {f g : Nat → Int32} {i x : Int32} (ha : ws[q0]? = some (a, .inl (cB, n, .inl f))) (hv : wr f n i (vp_nar .byte x) = some g) (hdg : decode cc pc = .ok (.bastore, 1)) (ws' : va_W) (hw' : ws.set q0 (a, .inl (cB, n, .inl g)) = ws')
    (kk : ∀ (H1 : Heap) (locs1 : List Loc), va_P D vwCl ws' H1 → va_D A ws' → va_S A s.heap H1 locs1 → W p l e R s m args below meth c H1 locs1 0 0 Q (F0 m (pc + 1) ls rest)) : W p l e R s m args below meth c H locs 0 0 Q (F0 m pc ls (.int x :: .int i :: .ref a :: rest)) := by
  obtain ⟨hx, hb, hml, hown, hts, hrt, hlocks, hK, hA, hZ⟩ := F
  obtain ⟨hin, rfl⟩ := wr_some hv
  subst hw'
  exact va_bast hx hb hK hP hD hS q0 1 ha rfl hin hdg kk
theorem aln (F : Fx p m c s meth args cc nL own Ts ret D cI cB kK kV A) (hP : va_P D vwCl ws H) (q0 : Nat) {a n : Nat} {f : Nat → Int32} (ha : ws[q0]? = some (a, .inl (cI, n, .inl f))) (hdg : decode cc pc = .ok (.arraylength, 1))
    (kk : W p l e R s m args below meth c H locs 0 0 Q (F0 m (pc + 1) ls (.int (Int32.ofNat n) :: rest))) : W p l e R s m args below meth c H locs 0 0 Q (F0 m pc ls (.ref a :: rest)) := by
  obtain ⟨hx, hb, hml, hown, hts, hrt, hlocks, hK, hA, hZ⟩ := F
  exact va_alen hx hb hK hP q0 0 ha (ty := .int) rfl rfl hdg kk
theorem gfN (F : Fx p m c s meth args cc nL own Ts ret D cI cB kK kV A) (hP : va_P D vwCl ws H) {C host : String} {T : u_T} {N ci index : Nat} (hin : ∀ w ∈ u_ws C T N, w ∈ Ts) (q0 : Nat) {a : Nat} {fs : List Value} (he : ws[q0]? = some (a, .inr (ci, fs))) (hc : vwCl[ci]? = some (C, T, N)) (k : Nat) (hk : k < N) (i : Nat) (hlink : nwF[i]? = some (own, index, (T k).1, (T k).2.1, (T k).2.2.1, host)) {v : Value} (hv : fs[k]? = some v) (hdg : decode cc pc = .ok (.getfield index, 3))
    (kk : W p l e R s m args below meth c H locs 0 0 Q (F0 m (pc + 3) ls (v :: rest))) : W p l e R s m args below meth c H locs 0 0 Q (F0 m pc ls (.ref a :: rest)) := by
  obtain ⟨hx, hb, hml, hown, hts, hrt, hlocks, hK, hA, hZ⟩ := F
  exact va_getN hx hb hts hin hown hK hP q0 he hc k hk (va_Nw.use rfl (hZ.2.2.2.1 _ (List.mem_of_getElem? hlink))) (fun _ h9 => h9) hv hdg kk
theorem pfN (F : Fx p m c s meth args cc nL own Ts ret D cI cB kK kV A) (hP : va_P D vwCl ws H) (hD : va_D A ws) (hS : va_S A s.heap H locs) {C host : String} {T : u_T} {N ci index : Nat} (hin : ∀ w ∈ u_ws C T N, w ∈ Ts) (ty0 : Nat → FieldType) (hty : ∀ k, k < N → parseFieldDescriptor (T k).2.2.1 = some (ty0 k)) (hnm : ∀ a, a < N → ∀ b, b < N → a ≠ b → (T a).2.1 ≠ (T b).2.1) (q0 : Nat) {a : Nat} {fs : List Value} (he : ws[q0]? = some (a, .inr (ci, fs))) (hc : vwCl[ci]? = some (C, T, N)) (k : Nat) (hk : k < N) (i : Nat) (hlink : nwF[i]? = some (own, index, (T k).1, (T k).2.1, (T k).2.2.1, host)) (hfin : (T k).2.2.2 = false) {v : Value} (hn : narrow (ty0 k) v = v) (hfit : fits (ty0 k) v = true) (hl : k < fs.length) (hdg : decode cc pc = .ok (.putfield index, 3)) (ws' : va_W) (hw' : ws.set q0 (a, .inr (ci, fs.set k v)) = ws')
    (kk : ∀ (H1 : Heap) (locs1 : List Loc), va_P D vwCl ws' H1 → va_D A ws' → va_S A s.heap H1 locs1 → W p l e R s m args below meth c H1 locs1 0 0 Q (F0 m (pc + 3) ls rest)) : W p l e R s m args below meth c H locs 0 0 Q (F0 m pc ls (v :: .ref a :: rest)) := by
  obtain ⟨hx, hb, hml, hown, hts, hrt, hlocks, hK, hA, hZ⟩ := F
  subst hw'
  exact va_putN hx hb hts hin ty0 hty hnm hown hK hP hD hS q0 he hc k hk (va_Nw.use rfl (hZ.2.2.2.1 _ (List.mem_of_getElem? hlink))) (fun _ h9 => h9) hfin (hty k hk) hn hfit hl hdg kk
theorem teqi {x v : Int32} (h : x = v) (k : W p l e R s m args below meth c H locs 0 0 Q (F0 m pc ls (.int v :: rest))) : W p l e R s m args below meth c H locs 0 0 Q (F0 m pc ls (.int x :: rest)) := by rw [h]; exact k
theorem teql {x v : Int64} (h : x = v) (k : W p l e R s m args below meth c H locs 0 0 Q (F0 m pc ls (.long v :: rest))) : W p l e R s m args below meth c H locs 0 0 Q (F0 m pc ls (.long x :: rest)) := by rw [h]; exact k
end BASE
/-- a divisor that may be 0 -/
def dvI (x y : Int32) : Option Int32 := if y = 0 then none else some (x / y)
def rmI (x y : Int32) : Option Int32 := if y = 0 then none else some (x - x / y * y)
def dvL (x y : Int64) : Option Int64 := if y = 0 then none else some (x / y)
def rmL (x y : Int64) : Option Int64 := if y = 0 then none else some (x - x / y * y)
theorem dvI_some {x y v : Int32} (h : dvI x y = some v) : ¬ y = 0 ∧ x / y = v := by
  unfold dvI at h
  split at h
  · cases h
  · rename_i hc
    exact ⟨hc, Option.some.inj h⟩
theorem rmI_some {x y v : Int32} (h : rmI x y = some v) : ¬ y = 0 ∧ x - x / y * y = v := by
  unfold rmI at h
  split at h
  · cases h
  · rename_i hc
    exact ⟨hc, Option.some.inj h⟩
theorem dvL_some {x y v : Int64} (h : dvL x y = some v) : ¬ y = 0 ∧ x / y = v := by
  unfold dvL at h
  split at h
  · cases h
  · rename_i hc
    exact ⟨hc, Option.some.inj h⟩
theorem rmL_some {x y v : Int64} (h : rmL x y = some v) : ¬ y = 0 ∧ x - x / y * y = v := by
  unfold rmL at h
  split at h
  · cases h
  · rename_i hc
    exact ⟨hc, Option.some.inj h⟩
/-- a number off a switch's table -/
theorem sw_out {x : Int32} {lo hi : Int} (h : ∀ k : Int, lo ≤ k → k ≤ hi → ¬ x.toInt = k) : x.toInt < lo ∨ hi < x.toInt := by
  by_cases h1 : x.toInt < lo
  · exact Or.inl h1
  · by_cases h2 : hi < x.toInt
    · exact Or.inr h2
    · exact absurd rfl (h x.toInt (by omega) (by omega))
/-- a number that is a truth value -/
def bz (v : Int32) : Option Int32 := if v = 0 ∨ v = 1 then some v else none
theorem bz_some {v b : Int32} (h : bz v = some b) : narrow .boolean (.int v) = .int v ∧ v = b := by
  unfold bz at h
  split at h
  · rename_i hc
    rcases hc with rfl | rfl
    · exact ⟨rfl, Option.some.inj h⟩
    · exact ⟨rfl, Option.some.inj h⟩
  · cases h
/-- the bytes of "hspla" -/
def kby (j : Nat) : Int32 := ([104, 115, 112, 108, 97] : List Int32).getD j 0
section BASEK
variable {p : Program} {l : Launch} {e : Env} {R : Room} {s : State} {m : MethodId} {args : Array Value} {below : List Frame} {meth : Method} {c : Code} {H : Heap} {locs : List Loc} {Q : State → Prop} {cc : ByteArray} {nL : Nat} {own : String} {Ts : List Cond} {ret : Option FieldType} {D : va_G} {cI cB : ClassId} {kK kV : Nat → Nat} {A : Nat → Prop}
variable {pc : Nat} {ls : Array Slot} {rest st : List Value} {ws : va_W}
theorem kbl (F : Fx p m c s meth args cc nL own Ts ret D cI cB kK kV A) (hS : va_S A s.heap H locs) {i v : Int32} (hv : rd kby 5 i = some v) (hdg : decode cc pc = .ok (.baload, 1))
    (kk : W p l e R s m args below meth c H locs 0 0 Q (F0 m (pc + 1) ls (.int v :: rest))) : W p l e R s m args below meth c H locs 0 0 Q (F0 m pc ls (.int i :: .ref (kV 0) :: rest)) := by
  obtain ⟨hx, hb, hml, hown, hts, hrt, hlocks, hK, hA, hZ⟩ := F
  obtain ⟨hin, rfl⟩ := rd_some hv
  exact va_tb hx hb (hZ.2.1.1 0 (by decide)).2.2.2 hS hin rfl hdg kk
theorem kln (F : Fx p m c s meth args cc nL own Ts ret D cI cB kK kV A) (hS : va_S A s.heap H locs) (hdg : decode cc pc = .ok (.arraylength, 1))
    (kk : W p l e R s m args below meth c H locs 0 0 Q (F0 m (pc + 1) ls (.int 5 :: rest))) : W p l e R s m args below meth c H locs 0 0 Q (F0 m pc ls (.ref (kV 0) :: rest)) := by
  obtain ⟨hx, hb, hml, hown, hts, hrt, hlocks, hK, hA, hZ⟩ := F
  exact va_tlen (v := 5) hx hb (hZ.2.1.1 0 (by decide)).2.2.2 hS rfl hdg kk
end BASEK
