/-! ===== constructors: what is made ===== -/
abbrev z0 : Nat → Int32 := fun _ => 0
/-- addresses: n of f, then those of g -/
def cat (n : Nat) (f g : Nat → Nat) : Nat → Nat := fun i => if i < n then f i else g (i - n)
def Qn (D : va_G) (b : Nat) (Wd : (Nat → Nat) → va_W) (A : Nat → Prop) : Array Value → State → Outcome → State → Prop := fun _ st oc t => (oc = .returned none ∧ ∃ ad : Nat → Nat, ad 0 = b ∧ va_P D vwCl (Wd ad) t.heap ∧ va_D A (Wd ad)) ∧ va_F A st t
def Cn (l : Launch) (y : MethodName) (ws : List Cond) (rm : Room) (D : va_G) (cI cB : ClassId) (kK kV : Nat → Nat) (b : Nat) (As : List Value) (w : va_W) (mc ms : Nat) (Wd : (Nat → Nat) → va_W) : Prop :=
  ∀ sz : Nat, Met l y ws rm (Pq D cI cB kK kV (.ref b :: As) w sz) (Qn D b Wd (va_A w sz)) mc ms (va_A w sz)
theorem Cn.of {l : Launch} {y : MethodName} {ws ws0 : List Cond} {rm : Room} {D : va_G} {cI cB : ClassId} {kK kV : Nat → Nat} {b : Nat} {As : List Value} {w : va_W} {mc ms : Nat} {Wd : (Nat → Nat) → va_W} {cc : ByteArray} {maxL : Nat}
    (hy : plainName y.cls = true) (hyn : y.name = "<init>") (hw : ws = Cond.code y cc maxL none :: ws0) (hlen : (lg_sl (.ref b :: As)).length ≤ maxL)
    (body : ∀ (p : Program) (e : Env) (s : State) (m : MethodId) (below : List Frame) (meth : Method) (c : Code) (A : Nat → Prop) (ls : Array Slot), Fx p m c s meth (Value.ref b :: As).toArray cc maxL y.cls ws none D cI cB kK kV A → meth.name = "<init>" → va_P D vwCl w s.heap → va_D A w → va_S A s.heap s.heap [] → lv_has ls maxL (lv_args 0 (.ref b :: As)) → W p l e rm s m (Value.ref b :: As).toArray below meth c s.heap [] 0 0 (MQ below (Qn D b Wd A) (Value.ref b :: As).toArray s mc ms A) (F0 m 0 ls [])) : Cn l y ws rm D cI cB kK kV b As w mc ms Wd := by
  intro sz
  refine Met.ofW (cc := cc) (maxL := maxL) (ret := none) hy hw ?_
  intro p e s m args below meth c s₁ B hml hv
  obtain ⟨rfl, hsz, hP, hK, hD0, hZ⟩ := hv
  subst hsz
  have hl := lv_entry (.ref b :: As) (n := maxL) hlen
  have hnm : meth.name = "<init>" := (name_of_methodNamed B.named B.method).1.trans hyn
  rw [lg_entry_eq]
  exact body p e s m below meth c (va_A w s.heap.size) _ ⟨B.exec, B.bytes, hml, findClass_of_methodNamed B.named, atoms_spec (ws := ws) B.pre, B.returns, B.notSynchronized, hK, fun q h => Or.inr h, hZ⟩ hnm hP (hD0.self (sz := s.heap.size)) va_S.rf hl
section CTOR
variable {p : Program} {l : Launch} {e : Env} {R : Room} {s : State} {m : MethodId} {args : Array Value} {below : List Frame} {meth : Method} {c : Code} {H : Heap} {locs : List Loc} {Q : State → Prop} {cc : ByteArray} {nL : Nat} {own : String} {Ts : List Cond} {ret : Option FieldType} {D : va_G} {cI cB : ClassId} {kK kV : Nat → Nat} {A : Nat → Prop}
variable {pc cells slots : Nat} {ls : Array Slot} {rest st : List Value} {ws : va_W}
theorem n_run {ws0 : va_W} {q : Nat} {el : va_E} {mc ms : Nat} {Wd : (Nat → Nat) → va_W} {a : Array Value} (F : Fx p m c s meth args cc nL own Ts ret D cI cB kK kV A) (hP : va_P D vwCl (ws0 ++ [(q, el)]) H) (hD : va_D A (ws0 ++ [(q, el)])) (hS : va_S A s.heap H locs)
    (hr : va_Run p l e R s m args below meth c H locs cells slots mc ms (F0 m pc ls st) rest (Qn D q Wd (va_A [(q, el)] H.size) a) (va_A [(q, el)] H.size))
    (kk : ∀ (ad : Nat → Nat) (H1 : Heap) (locs1 : List Loc), ad 0 = q → va_P D vwCl (ws0 ++ Wd ad) H1 → va_D A (ws0 ++ Wd ad) → va_S A s.heap H1 locs1 → W p l e R s m args below meth c H1 locs1 (cells + mc) (slots + ms) Q (F0 m (pc + 3) ls rest)) : W p l e R s m args below meth c H locs cells slots Q (F0 m pc ls st) := by
  have hFc : ∀ x, va_A [(q, el)] H.size x → A x := by
    intro x hx
    rcases vaA_iff.mp hx with h | h
    · have : x = q := by simpa using h
      subst this
      exact vaD_mem hD (x, el) (List.mem_append_right _ List.mem_cons_self)
    · obtain ⟨_, _, _, _, _, _, _, _, hA, _⟩ := F
      exact hA x (Nat.le_trans hS.1 h)
  obtain ⟨hx, hb, hml, hown, hts, hrt, hlocks, hK, hA, hZ⟩ := F
  intro T hT X
  obtain ⟨v, st₀, t, T', L, h0, X', hL, e1, e2, ⟨⟨hv, ad, hq, hPw, hDw⟩, hz, hk⟩, stp⟩ := hr T hT X
  cases hv
  rw [h0] at hz hk
  have hnd := vaD_nd hD
  rw [List.map_append] at hnd
  obtain ⟨n1, n2, n3⟩ := List.nodup_append.mp hnd
  have hout : ∀ x ∈ ws0, ¬ va_A [(q, el)] H.size x.1 := by
    intro x hx hA
    rcases vaA_iff.mp hA with h | h
    · exact n3 _ (List.mem_map.mpr ⟨x, hx, rfl⟩) _ h rfl
    · exact Nat.not_le.mpr (vaP_mem hP x (List.mem_append_left _ hx)).lt h
  have hP' : va_P D vwCl (ws0 ++ Wd ad) T'.heap := by
    refine vaP_of fun x hx => ?_
    rcases List.mem_append.mp hx with h | h
    · have hw := vaP_mem hP x (List.mem_append_left _ h)
      refine hw.kept ?_
      rw [e1]
      exact hk x.1 hw.lt (hout x h)
    · rw [e1]
      exact vaP_mem hPw x h
  have hD' : va_D A (ws0 ++ Wd ad) := by
    refine vaD_of ?_ fun x hx => ?_
    · rw [List.map_append]
      refine List.nodup_append.mpr ⟨n1, vaD_nd hDw, fun x hx y hy hxy => ?_⟩
      obtain ⟨x', hx', rfl⟩ := List.mem_map.mp hx
      obtain ⟨y', hy', rfl⟩ := List.mem_map.mp hy
      exact hout x' hx' (by rw [hxy]; exact vaD_mem hDw y' hy')
    · rcases List.mem_append.mp hx with h | h
      · exact vaD_mem hD x (List.mem_append_left _ h)
      · exact hFc _ (vaD_mem hDw x h)
  obtain ⟨t2, a1, b1⟩ := kk ad T'.heap (locs ++ L) hq hP' hD'
    ⟨Nat.le_trans hS.1 (by rw [e1]; exact hz), fun x h1 h2 => by rw [e1, hk x (Nat.lt_of_lt_of_le h1 hS.1) (fun z => h2 (hFc x z))]; exact hS.2.1 x h1 h2, fun x hx => by
      rcases List.mem_append.mp hx with h | h
      · exact hS.2.2 x h
      · exact hFc _ (hL x h)⟩ T' rfl X'
  exact ⟨t2, stp t2 a1, b1⟩
theorem n_pre {ws0 : va_W} {q : Nat} {el : va_E} {av : List Value} (F : Fx p m c s meth args cc nL own Ts ret D cI cB kK kV A) (hP : va_P D vwCl (ws0 ++ [(q, el)]) H) (hD : va_D A (ws0 ++ [(q, el)])) (hS : va_S A s.heap H locs) : ∀ U : State, U.heap = H → s.WarmedH U.vm → Pq D cI cB kK kV av [(q, el)] H.size av.toArray U :=
  cpre F hP hD hS (rs := ws0) List.perm_append_comm
/-- a constructor is called: the new cell stands last -/
theorem nI_ {ws0 : va_W} {q : Nat} {el : va_E} {y : MethodName} {wsc wsc' : List Cond} {rm : Room} {As : List Value} {mc ms : Nat} {Wd : (Nat → Nat) → va_W} (F : Fx p m c s meth args cc nL own Ts ret D cI cB kK kV A) (hP : va_P D vwCl (ws0 ++ [(q, el)]) H) (hD : va_D A (ws0 ++ [(q, el)])) (hS : va_S A s.heap H locs)
    (hM : Cn l y wsc rm D cI cB kK kV q As [(q, el)] mc ms Wd) {idx maxL n : Nat} {bytes : ByteArray} (hG : GoodIn Ts wsc) (hw : wsc = Cond.code y bytes maxL none :: wsc') (hrc : rm.cells = mc ∧ rm.slots = ms) (i1 i2 i3 : Nat) (hini : Ts[i1]? = some (Cond.initialized y.cls)) (hlk : Ts[i2]? = some (Cond.methodLink own idx y)) (hin : Ts[i3]? = some (Cond.instanceMethod y)) (hyn : y.name = "<init>")
    (hd : y.cls ≠ "java/lang/invoke/MethodHandle" ∧ y.cls ≠ "java/lang/invoke/VarHandle" ∧ (parseMethodDescriptor y.desc).map (fun d => d.parameters.length) = some n) (hRm : rm.frames + 1 ≤ R.frames ∧ 8 + (maxL + 11) + rm.locals ≤ R.locals)
    (hn : As.length = n) (hl : ls.size = nL) (hst : st = As.reverse ++ .ref q :: rest) (hroom : (rest.map fun v => v.category).sum ≤ 8) (hdg : decode cc pc = .ok (.invokespecial idx, 3)) (hf : cells + mc ≤ R.cells ∧ slots + ms ≤ R.slots)
    (kk : ∀ (ad : Nat → Nat) (H1 : Heap) (locs1 : List Loc), ad 0 = q → va_P D vwCl (ws0 ++ Wd ad) H1 → va_D A (ws0 ++ Wd ad) → va_S A s.heap H1 locs1 → W p l e R s m args below meth c H1 locs1 (cells + mc) (slots + ms) Q (F0 m (pc + 3) ls rest)) : W p l e R s m args below meth c H locs cells slots Q (F0 m pc ls st) := by
  obtain ⟨hx, hb, hml, hown, hts, hrt, hlocks, hK, hA, hZ⟩ := id F
  exact n_run F hP hD hS (va_runI (As := As) (rest := rest) ⟨hx, hb, hml, hown, hts⟩ (hM H.size) (cwI n hts hG hw hrc.1 hrc.2 (hts _ (List.mem_of_getElem? hini)) (hts _ (List.mem_of_getElem? hlk)) (hts _ (List.mem_of_getElem? hin)) hyn hd hRm) ⟨Pq.blind, n_pre F hP hD hS⟩ rfl hn hl hst (lv_room hroom) hdg hf) kk
/-- the same, of a private constructor of a nest mate -/
theorem nIN {ws0 : va_W} {q : Nat} {el : va_E} {y : MethodName} {wsc wsc' : List Cond} {rm : Room} {As : List Value} {mc ms : Nat} {Wd : (Nat → Nat) → va_W} {host : String} (F : Fx p m c s meth args cc nL own Ts ret D cI cB kK kV A) (hP : va_P D vwCl (ws0 ++ [(q, el)]) H) (hD : va_D A (ws0 ++ [(q, el)])) (hS : va_S A s.heap H locs)
    (hM : Cn l y wsc rm D cI cB kK kV q As [(q, el)] mc ms Wd) {idx maxL n : Nat} {bytes : ByteArray} (hG : GoodIn Ts wsc) (hw : wsc = Cond.code y bytes maxL none :: wsc') (hrc : rm.cells = mc ∧ rm.slots = ms) (i1 i2 i3 : Nat) (hini : Ts[i1]? = some (Cond.initialized y.cls)) (hlk : nwM[i2]? = some (own, idx, y, host)) (hin : Ts[i3]? = some (Cond.instanceMethod y)) (hyn : y.name = "<init>")
    (hd : y.cls ≠ "java/lang/invoke/MethodHandle" ∧ y.cls ≠ "java/lang/invoke/VarHandle" ∧ (parseMethodDescriptor y.desc).map (fun d => d.parameters.length) = some n) (hRm : rm.frames + 1 ≤ R.frames ∧ 8 + (maxL + 11) + rm.locals ≤ R.locals)
    (hn : As.length = n) (hl : ls.size = nL) (hst : st = As.reverse ++ .ref q :: rest) (hroom : (rest.map fun v => v.category).sum ≤ 8) (hdg : decode cc pc = .ok (.invokespecial idx, 3)) (hf : cells + mc ≤ R.cells ∧ slots + ms ≤ R.slots)
    (kk : ∀ (ad : Nat → Nat) (H1 : Heap) (locs1 : List Loc), ad 0 = q → va_P D vwCl (ws0 ++ Wd ad) H1 → va_D A (ws0 ++ Wd ad) → va_S A s.heap H1 locs1 → W p l e R s m args below meth c H1 locs1 (cells + mc) (slots + ms) Q (F0 m (pc + 3) ls rest)) : W p l e R s m args below meth c H locs cells slots Q (F0 m pc ls st) := by
  obtain ⟨hx, hb, hml, hown, hts, hrt, hlocks, hK, hA, hZ⟩ := id F
  exact n_run F hP hD hS (va_runIN (As := As) (rest := rest) ⟨hx, hb, hml, hown, hts⟩ (hM H.size) ⟨va_cnB n hts hG hw hrc.1 hrc.2 (hZ.2.2.2.2 _ (List.mem_of_getElem? hlk)) (hts _ (List.mem_of_getElem? hini)) hd hRm, hyn, hts _ (List.mem_of_getElem? hin)⟩ ⟨Pq.blind, n_pre F hP hD hS⟩ rfl hn hl hst (lv_room hroom) hdg hf) kk
/-- a new row of whole numbers -/
theorem nwI (F : Fx p m c s meth args cc nL own Ts ret D cI cB kK kV A) (hP : va_P D vwCl ws H) (hD : va_D A ws) (hS : va_S A s.heap H locs) (i : Nat) (harr : Ts[i]? = some (Cond.arrayClass .int)) {n : Int32} {N : Nat} (hn : ¬ n < 0) (hN : n.toNatClampNeg = N) (hsm : N ≤ 1000) (hcells : cells + 1 ≤ R.cells) (hslots : slots + N ≤ R.slots) (hdg : decode cc pc = .ok (.newarray .int, 2))
    (kk : ∀ (q : Nat) (H1 : Heap), va_P D vwCl (ws ++ [(q, .inl (cI, N, .inl z0))]) H1 → va_D A (ws ++ [(q, .inl (cI, N, .inl z0))]) → va_S A s.heap H1 locs → W p l e R s m args below meth c H1 locs (cells + 1) (slots + N) Q (F0 m (pc + 2) ls (.ref q :: rest))) : W p l e R s m args below meth c H locs cells slots Q (F0 m pc ls (.int n :: rest)) := by
  obtain ⟨hx, hb, hml, hown, hts, hrt, hlocks, hK, hA, hZ⟩ := F
  refine va_newa (ty := .int) (a0 := (N, .inl z0)) hx hb (hts _ (List.mem_of_getElem? harr)) rfl hK hP hD hS hA (fun cA => by rw [vp_cell_i]; rfl) hn hN (by show N * 4 ≤ 536870912; omega) hcells hslots hdg (fun q cA H1 hK1 hP1 hD1 hS1 => ?_)
  have h1 : s.vm.findClass ("[" ++ (FieldType.int).toString) = some cA := (hK1.2 2 (cA, .int) rfl).2
  have h2 : s.vm.findClass ("[" ++ (FieldType.int).toString) = some cI := (hK.2 0 (cI, .int) rfl).2
  have h3 : cA = cI := Option.some.inj (h1.symm.trans h2)
  subst h3
  exact kk q H1 hP1 hD1 hS1
theorem nwB (F : Fx p m c s meth args cc nL own Ts ret D cI cB kK kV A) (hP : va_P D vwCl ws H) (hD : va_D A ws) (hS : va_S A s.heap H locs) (i : Nat) (harr : Ts[i]? = some (Cond.arrayClass .byte)) {n : Int32} {N : Nat} (hn : ¬ n < 0) (hN : n.toNatClampNeg = N) (hsm : N ≤ 1000) (hcells : cells + 1 ≤ R.cells) (hslots : slots + N ≤ R.slots) (hdg : decode cc pc = .ok (.newarray .byte, 2))
    (kk : ∀ (q : Nat) (H1 : Heap), va_P D vwCl (ws ++ [(q, .inl (cB, N, .inl z0))]) H1 → va_D A (ws ++ [(q, .inl (cB, N, .inl z0))]) → va_S A s.heap H1 locs → W p l e R s m args below meth c H1 locs (cells + 1) (slots + N) Q (F0 m (pc + 2) ls (.ref q :: rest))) : W p l e R s m args below meth c H locs cells slots Q (F0 m pc ls (.int n :: rest)) := by
  obtain ⟨hx, hb, hml, hown, hts, hrt, hlocks, hK, hA, hZ⟩ := F
  refine va_newa (ty := .byte) (a0 := (N, .inl z0)) hx hb (hts _ (List.mem_of_getElem? harr)) rfl hK hP hD hS hA (fun cA => by rw [vp_cell_i]; rfl) hn hN (by show N * 1 ≤ 536870912; omega) hcells hslots hdg (fun q cA H1 hK1 hP1 hD1 hS1 => ?_)
  have h1 : s.vm.findClass ("[" ++ (FieldType.byte).toString) = some cA := (hK1.2 2 (cA, .byte) rfl).2
  have h2 : s.vm.findClass ("[" ++ (FieldType.byte).toString) = some cB := (hK.2 1 (cB, .byte) rfl).2
  have h3 : cA = cB := Option.some.inj (h1.symm.trans h2)
  subst h3
  exact kk q H1 hP1 hD1 hS1
/-- a final field is written by its own constructor -/
theorem pfF (F : Fx p m c s meth args cc nL own Ts ret D cI cB kK kV A) (hnm0 : meth.name = "<init>") (hP : va_P D vwCl ws H) (hD : va_D A ws) (hS : va_S A s.heap H locs) {C : String} {T : u_T} {N ci index : Nat} (hin : ∀ w ∈ u_ws C T N, w ∈ Ts) (ty0 : Nat → FieldType) (hty : ∀ k, k < N → parseFieldDescriptor (T k).2.2.1 = some (ty0 k)) (hnm : ∀ a, a < N → ∀ b, b < N → a ≠ b → (T a).2.1 ≠ (T b).2.1) (q0 : Nat) {a : Nat} {fs : List Value} (he : ws[q0]? = some (a, .inr (ci, fs))) (hc : vwCl[ci]? = some (C, T, N)) (k : Nat) (hk : k < N) (i : Nat) (hlink : Ts[i]? = some (Cond.fieldLink own index (T k).1 (T k).2.1 (T k).2.2.1)) (hfin : (T k).2.2.2 = true) (hdecl : (T k).1 = own) {v : Value} (hn : narrow (ty0 k) v = v) (hfit : fits (ty0 k) v = true) (hl : k < fs.length) (hdg : decode cc pc = .ok (.putfield index, 3)) (ws' : va_W) (hw' : ws.set q0 (a, .inr (ci, fs.set k v)) = ws')
    (kk : ∀ (H1 : Heap) (locs1 : List Loc), va_P D vwCl ws' H1 → va_D A ws' → va_S A s.heap H1 locs1 → W p l e R s m args below meth c H1 locs1 cells slots Q (F0 m (pc + 3) ls rest)) : W p l e R s m args below meth c H locs cells slots Q (F0 m pc ls (v :: .ref a :: rest)) := by
  obtain ⟨hx, hb, hml, hown, hts, hrt, hlocks, hK, hA, hZ⟩ := F
  subst hw'
  exact va_putF hx hb hts hin ty0 hty hnm hown hK hP hD hS q0 he hc k hk (hts _ (List.mem_of_getElem? hlink)) (fun _ h9 => h9) hfin hnm0 hdecl (hty k hk) hn hfit hl hdg kk
theorem pfC (F : Fx p m c s meth args cc nL own Ts ret D cI cB kK kV A) (hP : va_P D vwCl ws H) (hD : va_D A ws) (hS : va_S A s.heap H locs) {C : String} {T : u_T} {N ci index : Nat} (hin : ∀ w ∈ u_ws C T N, w ∈ Ts) (ty0 : Nat → FieldType) (hty : ∀ k, k < N → parseFieldDescriptor (T k).2.2.1 = some (ty0 k)) (hnm : ∀ a, a < N → ∀ b, b < N → a ≠ b → (T a).2.1 ≠ (T b).2.1) (q0 : Nat) {a : Nat} {fs : List Value} (he : ws[q0]? = some (a, .inr (ci, fs))) (hc : vwCl[ci]? = some (C, T, N)) (k : Nat) (hk : k < N) (i : Nat) (hlink : Ts[i]? = some (Cond.fieldLink own index (T k).1 (T k).2.1 (T k).2.2.1)) (hfin : (T k).2.2.2 = false) {v : Value} (hn : narrow (ty0 k) v = v) (hfit : fits (ty0 k) v = true) (hl : k < fs.length) (hdg : decode cc pc = .ok (.putfield index, 3)) (ws' : va_W) (hw' : ws.set q0 (a, .inr (ci, fs.set k v)) = ws')
    (kk : ∀ (H1 : Heap) (locs1 : List Loc), va_P D vwCl ws' H1 → va_D A ws' → va_S A s.heap H1 locs1 → W p l e R s m args below meth c H1 locs1 cells slots Q (F0 m (pc + 3) ls rest)) : W p l e R s m args below meth c H locs cells slots Q (F0 m pc ls (v :: .ref a :: rest)) := by
  obtain ⟨hx, hb, hml, hown, hts, hrt, hlocks, hK, hA, hZ⟩ := F
  subst hw'
  exact va_put hx hb hts hin ty0 hty hnm hown hK hP hD hS q0 he hc k hk (hts _ (List.mem_of_getElem? hlink)) (fun _ h9 => h9) hfin (hty k hk) hn hfit hl hdg kk
/-- a new object -/
theorem nwO (F : Fx p m c s meth args cc nL own Ts ret D cI cB kK kV A) (hP : va_P D vwCl ws H) (hD : va_D A ws) (hS : va_S A s.heap H locs) {C : String} {T : u_T} {N ci index : Nat} (hin : ∀ w ∈ u_ws C T N, w ∈ Ts) (ty : Nat → FieldType) (hty : ∀ k, k < N → parseFieldDescriptor (T k).2.2.1 = some (ty k)) (i1 i2 i3 : Nat) (hcl : Ts[i1]? = some (Cond.classLink own index C)) (hinst : Ts[i2]? = some (Cond.instantiable C N)) (hini : Ts[i3]? = some (Cond.initialized C)) (hc : vwCl[ci]? = some (C, T, N)) {fs : List Value} (hfs : ∀ j, j < N → defaultValue (ty j) = vp_V fs j) (hcells : cells + 1 ≤ R.cells) (hslots : slots + N ≤ R.slots) (hdg : decode cc pc = .ok (.new index, 3))
    (kk : ∀ (q : Nat) (H1 : Heap), va_P D vwCl (ws ++ [(q, .inr (ci, fs))]) H1 → va_D A (ws ++ [(q, .inr (ci, fs))]) → va_S A s.heap H1 locs → W p l e R s m args below meth c H1 locs (cells + 1) (slots + N) Q (F0 m (pc + 3) ls (.ref q :: rest))) : W p l e R s m args below meth c H locs cells slots Q (F0 m pc ls rest) := by
  obtain ⟨hx, hb, hml, hown, hts, hrt, hlocks, hK, hA, hZ⟩ := F
  exact va_new hx hb hts hin ty hty hown (hts _ (List.mem_of_getElem? hcl)) (hts _ (List.mem_of_getElem? hinst)) (hts _ (List.mem_of_getElem? hini)) hK hP hD hS hA hc hfs hcells hslots hdg kk
theorem ret_n {b : Nat} {Wd : (Nat → Nat) → va_W} {mc ms : Nat} (F : Fx p m c s meth args cc nL own Ts none D cI cB kK kV A) (ad : Nat → Nat) (had : ad 0 = b) (hP : va_P D vwCl (Wd ad) H) (hD : va_D A (Wd ad)) (hS : va_S A s.heap H locs) (h1 : cells ≤ mc) (h2 : slots ≤ ms) (hdg : decode cc pc = .ok (.return_, 1)) : W p l e R s m args below meth c H locs cells slots (MQ below (Qn D b Wd A) args s mc ms A) (F0 m pc ls []) := by
  obtain ⟨hx, hb, hml, hown, hts, hrt, hlocks, hK, hA, hZ⟩ := F
  refine W.widen (k := mc) (n := ms) h1 h2 ?_
  exact W.vret hx hb hrt (fun t ht hW => ⟨⟨rfl, ad, had, by rw [ht]; exact hP, hD⟩, hS.F ht⟩) hS.2.2 hdg hlocks
end CTOR
def rm_X3_init (N : Nat) : Room := { frames := 1, cells := 1, slots := N, locals := 22 }
theorem in_X3_init_X3 : ∀ w ∈ u_ws RX3 TX3 1, w ∈ wsX3_init := fun _ h => List.mem_cons_of_mem _ (List.mem_append_right _ (h))
theorem nd_X3_init : yX3_init.cls ≠ "java/lang/invoke/MethodHandle" ∧ yX3_init.cls ≠ "java/lang/invoke/VarHandle" ∧ (parseMethodDescriptor yX3_init.desc).map (fun d => d.parameters.length) = some 1 := by decide +kernel
theorem df_X3 : ∀ j, j < 1 → defaultValue (tyX3 j) = vp_V [.null] j := by decide
set_option maxHeartbeats 4000000 in
set_option maxRecDepth 100000 in
theorem k_X3_init (l : Launch) {D : va_G} {cI cB : ClassId} {kK kV : Nat → Nat} (b : Nat) (x1 : Int32) (N : Nat) (h0 : 0 < x1) (hN : x1.toNatClampNeg = N) (hs : N ≤ 1000) : Cn l yX3_init wsX3_init (rm_X3_init N) D cI cB kK kV b [.int x1] [(b, .inr (3, [.null]))] 1 N (fun ad => w_X3 cI cB ad N z0) := by
  have hn : ¬ x1 < 0 := fun h => Int32.lt_irrefl (Int32.lt_trans h h0)
  refine Cn.of (cc := cX3_init) (maxL := 2) (by decide) rfl rfl (Nat.le_of_ble_eq_true rfl) ?_
  intro p e s m below meth c A ls F hnm hP hD hS hl
  have hl : lv_has ls 2 [(0, .ref b), (1, .int x1)] := hl
  obtain ⟨hx, hb, hml, hown, hts, hrt, hlocks, hK, hA, hZ⟩ := id F
  refine lv_aload_n hx hb dX3_init_0 rfl (lv_at hl 0 rfl) ?_
  refine W.objInit hx hb hown (hts (.methodLink RX3 1 objectInit) (List.mem_of_getElem? (i := 1) rfl)) (hts (.instanceMethod objectInit) (List.mem_of_getElem? (i := 2) rfl)) (hts (.code objectInit ⟨#[0xb1]⟩ 1 none) (List.mem_of_getElem? (i := 3) rfl)) rfl (by rw [hml]; exact hl.1) rfl dX3_init_1 (Nat.le_of_ble_eq_true rfl) (Nat.le_of_ble_eq_true rfl) ?_
  refine W.eq (g2 := F0 m 4 ls []) rfl ?_
  refine lv_aload_n hx hb dX3_init_4 rfl (lv_at hl 0 rfl) ?_
  refine lv_iconst (v := 0) hx hb dX3_init_5 (by decide) ?_
  refine lv_iload_n hx hb dX3_init_6 rfl (lv_at hl 1 rfl) ?_
  refine va_mmax hx hb (hml.trans hl.1.symm) hown (hts _ (List.mem_of_getElem? (i := 4) rfl)) (hts _ (List.mem_of_getElem? (i := 5) rfl)) (hts _ (List.mem_of_getElem? (i := 6) rfl)) (hts _ (List.mem_of_getElem? (i := 7) rfl)) (Nat.le_of_ble_eq_true rfl) (Nat.le_of_ble_eq_true rfl) (Nat.le_of_ble_eq_true rfl) (Nat.le_of_ble_eq_true rfl) dX3_init_7 ?_
  rw [if_pos h0]
  refine nwI F hP hD hS 8 rfl (N := N) hn hN hs (Nat.le_of_ble_eq_true rfl) (Nat.le_of_eq (Nat.zero_add _)) dX3_init_10 (fun q1 H hP hD hS => ?_)
  have hP : va_P D vwCl [(b, .inr (3, [.null])), (q1, .inl (cI, N, .inl z0))] H := hP
  have hD : va_D A [(b, .inr (3, [.null])), (q1, .inl (cI, N, .inl z0))] := hD
  refine pfF F hnm hP hD hS in_X3_init_X3 tyX3 tyX3_ok nmX3 0 rfl rfl 0 (by decide) 9 rfl rfl rfl rfl rfl (Nat.le_of_ble_eq_true rfl) dX3_init_12 [(b, .inr (3, [.ref q1])), (q1, .inl (cI, N, .inl z0))] rfl (fun H locs hP hD hS => ?_)
  exact ret_n F (cat 1 (fun _ => b) (fun _ => q1)) rfl hP hD hS (Nat.le_of_ble_eq_true rfl) (Nat.le_of_eq (Nat.zero_add _)) dX3_init_15
def rm_X5_init : Room := { frames := 1, cells := 1, slots := 16, locals := 12 }
theorem in_X5_init_X5 : ∀ w ∈ u_ws RX5 TX5 1, w ∈ wsX5_init := fun _ h => List.mem_cons_of_mem _ (List.mem_append_right _ (h))
theorem nd_X5_init : yX5_init.cls ≠ "java/lang/invoke/MethodHandle" ∧ yX5_init.cls ≠ "java/lang/invoke/VarHandle" ∧ (parseMethodDescriptor yX5_init.desc).map (fun d => d.parameters.length) = some 0 := by decide +kernel
theorem df_X5 : ∀ j, j < 1 → defaultValue (tyX5 j) = vp_V [.null] j := by decide
set_option maxHeartbeats 4000000 in
set_option maxRecDepth 100000 in
theorem k_X5_init (l : Launch) {D : va_G} {cI cB : ClassId} {kK kV : Nat → Nat} (b : Nat) : Cn l yX5_init wsX5_init rm_X5_init D cI cB kK kV b [] [(b, .inr (5, [.null]))] 1 16 (fun ad => w_X5 cI cB ad z0) := by
  refine Cn.of (cc := cX5_init) (maxL := 1) (by decide) rfl rfl (Nat.le_of_ble_eq_true rfl) ?_
  intro p e s m below meth c A ls F hnm hP hD hS hl
  have hl : lv_has ls 1 [(0, .ref b)] := hl
  obtain ⟨hx, hb, hml, hown, hts, hrt, hlocks, hK, hA, hZ⟩ := id F
  refine lv_aload_n hx hb dX5_init_0 rfl (lv_at hl 0 rfl) ?_
  refine W.objInit hx hb hown (hts (.methodLink RX5 3 objectInit) (List.mem_of_getElem? (i := 1) rfl)) (hts (.instanceMethod objectInit) (List.mem_of_getElem? (i := 2) rfl)) (hts (.code objectInit ⟨#[0xb1]⟩ 1 none) (List.mem_of_getElem? (i := 3) rfl)) rfl (by rw [hml]; exact hl.1) rfl dX5_init_1 (Nat.le_of_ble_eq_true rfl) (Nat.le_of_ble_eq_true rfl) ?_
  refine W.eq (g2 := F0 m 4 ls []) rfl ?_
  refine lv_aload_n hx hb dX5_init_4 rfl (lv_at hl 0 rfl) ?_
  refine lv_bipush (v := 16) hx hb dX5_init_5 (by decide) ?_
  refine nwI F hP hD hS 4 rfl (N := 16) (by decide) (by decide) (by decide) (Nat.le_of_ble_eq_true rfl) (Nat.le_of_ble_eq_true rfl) dX5_init_7 (fun q1 H hP hD hS => ?_)
  have hP : va_P D vwCl [(b, .inr (5, [.null])), (q1, .inl (cI, 16, .inl z0))] H := hP
  have hD : va_D A [(b, .inr (5, [.null])), (q1, .inl (cI, 16, .inl z0))] := hD
  refine pfF F hnm hP hD hS in_X5_init_X5 tyX5 tyX5_ok nmX5 0 rfl rfl 0 (by decide) 5 rfl rfl rfl rfl rfl (Nat.le_of_ble_eq_true rfl) dX5_init_9 [(b, .inr (5, [.ref q1])), (q1, .inl (cI, 16, .inl z0))] rfl (fun H locs hP hD hS => ?_)
  exact ret_n F (cat 1 (fun _ => b) (fun _ => q1)) rfl hP hD hS (Nat.le_of_ble_eq_true rfl) (Nat.le_of_ble_eq_true rfl) dX5_init_12
def rm_X2_init : Room := { frames := 2, cells := 2, slots := 26, locals := 43 }
theorem in_X2_init_X2 : ∀ w ∈ u_ws RX2 TX2 2, w ∈ wsX2_init := fun _ h => List.mem_cons_of_mem _ (List.mem_append_right _ (h))
theorem in_X2_init_X3 : ∀ w ∈ u_ws RX3 TX3 1, w ∈ wsX2_init := fun _ h => List.mem_cons_of_mem _ (List.mem_append_left _ (List.mem_append_right _ (h)))
theorem nd_X2_init : yX2_init.cls ≠ "java/lang/invoke/MethodHandle" ∧ yX2_init.cls ≠ "java/lang/invoke/VarHandle" ∧ (parseMethodDescriptor yX2_init.desc).map (fun d => d.parameters.length) = some 0 := by decide +kernel
theorem df_X2 : ∀ j, j < 2 → defaultValue (tyX2 j) = vp_V [.null, .int 0] j := by decide
set_option maxHeartbeats 4000000 in
set_option maxRecDepth 100000 in
theorem k_X2_init (l : Launch) {D : va_G} {cI cB : ClassId} {kK kV : Nat → Nat} (b : Nat) : Cn l yX2_init wsX2_init rm_X2_init D cI cB kK kV b [] [(b, .inr (2, [.null, .int 0]))] 2 26 (fun ad => w_X2 cI cB ad z0 0) := by
  refine Cn.of (cc := cX2_init) (maxL := 1) (by decide) rfl rfl (Nat.le_of_ble_eq_true rfl) ?_
  intro p e s m below meth c A ls F hnm hP hD hS hl
  have hl : lv_has ls 1 [(0, .ref b)] := hl
  obtain ⟨hx, hb, hml, hown, hts, hrt, hlocks, hK, hA, hZ⟩ := id F
  refine lv_aload_n hx hb dX2_init_0 rfl (lv_at hl 0 rfl) ?_
  refine W.objInit hx hb hown (hts (.methodLink RX2 3 objectInit) (List.mem_of_getElem? (i := 1) rfl)) (hts (.instanceMethod objectInit) (List.mem_of_getElem? (i := 2) rfl)) (hts (.code objectInit ⟨#[0xb1]⟩ 1 none) (List.mem_of_getElem? (i := 3) rfl)) rfl (by rw [hml]; exact hl.1) rfl dX2_init_1 (Nat.le_of_ble_eq_true rfl) (Nat.le_of_ble_eq_true rfl) ?_
  refine W.eq (g2 := F0 m 4 ls []) rfl ?_
  refine lv_aload_n hx hb dX2_init_4 rfl (lv_at hl 0 rfl) ?_
  refine nwO F hP hD hS in_X2_init_X3 tyX3 tyX3_ok 4 5 6 rfl rfl rfl (ci := 3) rfl (fs := [.null]) df_X3 (Nat.le_of_ble_eq_true rfl) (Nat.le_of_ble_eq_true rfl) dX2_init_5 (fun q1 H hP hD hS => ?_)
  refine lv_dup hx hb dX2_init_8 rfl ?_
  refine lv_bipush (v := 25) hx hb dX2_init_9 (by decide) ?_
  refine nI_ F hP hD hS (k_X3_init l q1 25 25 (by decide) (by decide) (by decide)) gX2_init_X3_init rfl ⟨rfl, rfl⟩ 6 8 9 rfl rfl rfl rfl nd_X3_init ⟨Nat.le_of_ble_eq_true rfl, Nat.le_of_ble_eq_true rfl⟩ rfl hl.1 rfl (Nat.le_of_ble_eq_true rfl) dX2_init_11 ⟨Nat.le_of_ble_eq_true rfl, Nat.le_of_ble_eq_true rfl⟩ (fun a1 H locs h1 hP hD hS => ?_)
  rw [← h1]
  have hP : va_P D vwCl ([(b, .inr (2, [.null, .int 0]))] ++ (w_X3 cI cB a1 25 z0)) H := hP
  have hD : va_D A ([(b, .inr (2, [.null, .int 0]))] ++ (w_X3 cI cB a1 25 z0)) := hD
  refine pfF F hnm hP hD hS in_X2_init_X2 tyX2 tyX2_ok nmX2 0 rfl rfl 0 (by decide) 7 rfl rfl rfl rfl rfl (Nat.le_of_ble_eq_true rfl) dX2_init_14 ([(b, .inr (2, [.ref (a1 0), .int 0]))] ++ (w_X3 cI cB a1 25 z0)) rfl (fun H locs hP hD hS => ?_)
  exact ret_n F (cat 1 (fun _ => b) a1) rfl hP hD hS (Nat.le_of_ble_eq_true rfl) (Nat.le_of_ble_eq_true rfl) dX2_init_17
set_option maxRecDepth 20000 in
theorem gX4_init_X5_init : GoodIn wsX4_init wsX5_init := goodIn_r _ [17, 18, 2, 3, 19, 20, 30] (by decide +kernel) (by decide +kernel)
def rm_X4_init : Room := { frames := 2, cells := 12, slots := 50, locals := 43 }
theorem in_X4_init_X3 : ∀ w ∈ u_ws RX3 TX3 1, w ∈ wsX4_init := fun _ h => List.mem_cons_of_mem _ (List.mem_append_right _ (h))
theorem in_X4_init_X4 : ∀ w ∈ u_ws RX4 TX4 9, w ∈ wsX4_init := fun _ h => List.mem_cons_of_mem _ (List.mem_append_left _ (List.mem_append_right _ (h)))
theorem in_X4_init_X5 : ∀ w ∈ u_ws RX5 TX5 1, w ∈ wsX4_init := fun _ h => List.mem_cons_of_mem _ (List.mem_append_left _ (List.mem_append_left _ (List.mem_append_right _ (h))))
theorem nd_X4_init : yX4_init.cls ≠ "java/lang/invoke/MethodHandle" ∧ yX4_init.cls ≠ "java/lang/invoke/VarHandle" ∧ (parseMethodDescriptor yX4_init.desc).map (fun d => d.parameters.length) = some 0 := by decide +kernel
theorem df_X4 : ∀ j, j < 9 → defaultValue (tyX4 j) = vp_V [.null, .null, .null, .null, .null, .null, .int 0, .int 0, .int 0] j := by decide
set_option maxHeartbeats 4000000 in
set_option maxRecDepth 100000 in
theorem k_X4_init (l : Launch) {D : va_G} {cI cB : ClassId} {kK kV : Nat → Nat} (b : Nat) : Cn l yX4_init wsX4_init rm_X4_init D cI cB kK kV b [] [(b, .inr (4, [.null, .null, .null, .null, .null, .null, .int 0, .int 0, .int 0]))] 12 50 (fun ad => w_X4 cI cB ad z0 z0 z0 z0 z0 z0 0 0 0) := by
  refine Cn.of (cc := cX4_init) (maxL := 1) (by decide) rfl rfl (Nat.le_of_ble_eq_true rfl) ?_
  intro p e s m below meth c A ls F hnm hP hD hS hl
  have hl : lv_has ls 1 [(0, .ref b)] := hl
  obtain ⟨hx, hb, hml, hown, hts, hrt, hlocks, hK, hA, hZ⟩ := id F
  refine lv_aload_n hx hb dX4_init_0 rfl (lv_at hl 0 rfl) ?_
  refine W.objInit hx hb hown (hts (.methodLink RX4 3 objectInit) (List.mem_of_getElem? (i := 1) rfl)) (hts (.instanceMethod objectInit) (List.mem_of_getElem? (i := 2) rfl)) (hts (.code objectInit ⟨#[0xb1]⟩ 1 none) (List.mem_of_getElem? (i := 3) rfl)) rfl (by rw [hml]; exact hl.1) rfl dX4_init_1 (Nat.le_of_ble_eq_true rfl) (Nat.le_of_ble_eq_true rfl) ?_
  refine W.eq (g2 := F0 m 4 ls []) rfl ?_
  refine lv_aload_n hx hb dX4_init_4 rfl (lv_at hl 0 rfl) ?_
  refine nwO F hP hD hS in_X4_init_X5 tyX5 tyX5_ok 4 5 6 rfl rfl rfl (ci := 5) rfl (fs := [.null]) df_X5 (Nat.le_of_ble_eq_true rfl) (Nat.le_of_ble_eq_true rfl) dX4_init_5 (fun q1 H hP hD hS => ?_)
  refine lv_dup hx hb dX4_init_8 rfl ?_
  refine nIN F hP hD hS (k_X5_init l q1) gX4_init_X5_init rfl ⟨rfl, rfl⟩ 6 5 16 rfl rfl rfl rfl nd_X5_init ⟨Nat.le_of_ble_eq_true rfl, Nat.le_of_ble_eq_true rfl⟩ rfl hl.1 rfl (Nat.le_of_ble_eq_true rfl) dX4_init_9 ⟨Nat.le_of_ble_eq_true rfl, Nat.le_of_ble_eq_true rfl⟩ (fun a1 H locs h1 hP hD hS => ?_)
  rw [← h1]
  have hP : va_P D vwCl ([(b, .inr (4, [.null, .null, .null, .null, .null, .null, .int 0, .int 0, .int 0]))] ++ (w_X5 cI cB a1 z0)) H := hP
  have hD : va_D A ([(b, .inr (4, [.null, .null, .null, .null, .null, .null, .int 0, .int 0, .int 0]))] ++ (w_X5 cI cB a1 z0)) := hD
  refine pfF F hnm hP hD hS in_X4_init_X4 tyX4 tyX4_ok nmX4 0 rfl rfl 0 (by decide) 7 rfl rfl rfl rfl rfl (Nat.le_of_ble_eq_true rfl) dX4_init_12 ([(b, .inr (4, [.ref (a1 0), .null, .null, .null, .null, .null, .int 0, .int 0, .int 0]))] ++ (w_X5 cI cB a1 z0)) rfl (fun H locs hP hD hS => ?_)
  refine lv_aload_n hx hb dX4_init_15 rfl (lv_at hl 0 rfl) ?_
  refine nwO F hP hD hS in_X4_init_X3 tyX3 tyX3_ok 8 9 10 rfl rfl rfl (ci := 3) rfl (fs := [.null]) df_X3 (Nat.le_of_ble_eq_true rfl) (Nat.le_of_ble_eq_true rfl) dX4_init_16 (fun q2 H hP hD hS => ?_)
  refine lv_dup hx hb dX4_init_19 rfl ?_
  refine lv_iconst (v := 4) hx hb dX4_init_20 (by decide) ?_
  refine nI_ F hP hD hS (k_X3_init l q2 4 4 (by decide) (by decide) (by decide)) gX4_init_X3_init rfl ⟨rfl, rfl⟩ 10 21 22 rfl rfl rfl rfl nd_X3_init ⟨Nat.le_of_ble_eq_true rfl, Nat.le_of_ble_eq_true rfl⟩ rfl hl.1 rfl (Nat.le_of_ble_eq_true rfl) dX4_init_21 ⟨Nat.le_of_ble_eq_true rfl, Nat.le_of_ble_eq_true rfl⟩ (fun a2 H locs h2 hP hD hS => ?_)
  rw [← h2]
  have hP : va_P D vwCl ([(b, .inr (4, [.ref (a1 0), .null, .null, .null, .null, .null, .int 0, .int 0, .int 0]))] ++ (w_X5 cI cB a1 z0 ++ (w_X3 cI cB a2 4 z0))) H := hP
  have hD : va_D A ([(b, .inr (4, [.ref (a1 0), .null, .null, .null, .null, .null, .int 0, .int 0, .int 0]))] ++ (w_X5 cI cB a1 z0 ++ (w_X3 cI cB a2 4 z0))) := hD
  refine pfF F hnm hP hD hS in_X4_init_X4 tyX4 tyX4_ok nmX4 0 rfl rfl 1 (by decide) 11 rfl rfl rfl rfl rfl (Nat.le_of_ble_eq_true rfl) dX4_init_24 ([(b, .inr (4, [.ref (a1 0), .ref (a2 0), .null, .null, .null, .null, .int 0, .int 0, .int 0]))] ++ (w_X5 cI cB a1 z0 ++ (w_X3 cI cB a2 4 z0))) rfl (fun H locs hP hD hS => ?_)
  refine lv_aload_n hx hb dX4_init_27 rfl (lv_at hl 0 rfl) ?_
  refine nwO F hP hD hS in_X4_init_X3 tyX3 tyX3_ok 8 9 10 rfl rfl rfl (ci := 3) rfl (fs := [.null]) df_X3 (Nat.le_of_ble_eq_true rfl) (Nat.le_of_ble_eq_true rfl) dX4_init_28 (fun q3 H hP hD hS => ?_)
  refine lv_dup hx hb dX4_init_31 rfl ?_
  refine lv_bipush (v := 6) hx hb dX4_init_32 (by decide) ?_
  refine nI_ F hP hD hS (k_X3_init l q3 6 6 (by decide) (by decide) (by decide)) gX4_init_X3_init rfl ⟨rfl, rfl⟩ 10 21 22 rfl rfl rfl rfl nd_X3_init ⟨Nat.le_of_ble_eq_true rfl, Nat.le_of_ble_eq_true rfl⟩ rfl hl.1 rfl (Nat.le_of_ble_eq_true rfl) dX4_init_34 ⟨Nat.le_of_ble_eq_true rfl, Nat.le_of_ble_eq_true rfl⟩ (fun a3 H locs h3 hP hD hS => ?_)
  rw [← h3]
  have hP : va_P D vwCl ([(b, .inr (4, [.ref (a1 0), .ref (a2 0), .null, .null, .null, .null, .int 0, .int 0, .int 0]))] ++ (w_X5 cI cB a1 z0 ++ (w_X3 cI cB a2 4 z0 ++ (w_X3 cI cB a3 6 z0)))) H := hP
  have hD : va_D A ([(b, .inr (4, [.ref (a1 0), .ref (a2 0), .null, .null, .null, .null, .int 0, .int 0, .int 0]))] ++ (w_X5 cI cB a1 z0 ++ (w_X3 cI cB a2 4 z0 ++ (w_X3 cI cB a3 6 z0)))) := hD
  refine pfF F hnm hP hD hS in_X4_init_X4 tyX4 tyX4_ok nmX4 0 rfl rfl 2 (by decide) 12 rfl rfl rfl rfl rfl (Nat.le_of_ble_eq_true rfl) dX4_init_37 ([(b, .inr (4, [.ref (a1 0), .ref (a2 0), .ref (a3 0), .null, .null, .null, .int 0, .int 0, .int 0]))] ++ (w_X5 cI cB a1 z0 ++ (w_X3 cI cB a2 4 z0 ++ (w_X3 cI cB a3 6 z0)))) rfl (fun H locs hP hD hS => ?_)
  refine lv_aload_n hx hb dX4_init_40 rfl (lv_at hl 0 rfl) ?_
  refine nwO F hP hD hS in_X4_init_X3 tyX3 tyX3_ok 8 9 10 rfl rfl rfl (ci := 3) rfl (fs := [.null]) df_X3 (Nat.le_of_ble_eq_true rfl) (Nat.le_of_ble_eq_true rfl) dX4_init_41 (fun q4 H hP hD hS => ?_)
  refine lv_dup hx hb dX4_init_44 rfl ?_
  refine lv_bipush (v := 6) hx hb dX4_init_45 (by decide) ?_
  refine nI_ F hP hD hS (k_X3_init l q4 6 6 (by decide) (by decide) (by decide)) gX4_init_X3_init rfl ⟨rfl, rfl⟩ 10 21 22 rfl rfl rfl rfl nd_X3_init ⟨Nat.le_of_ble_eq_true rfl, Nat.le_of_ble_eq_true rfl⟩ rfl hl.1 rfl (Nat.le_of_ble_eq_true rfl) dX4_init_47 ⟨Nat.le_of_ble_eq_true rfl, Nat.le_of_ble_eq_true rfl⟩ (fun a4 H locs h4 hP hD hS => ?_)
  rw [← h4]
  have hP : va_P D vwCl ([(b, .inr (4, [.ref (a1 0), .ref (a2 0), .ref (a3 0), .null, .null, .null, .int 0, .int 0, .int 0]))] ++ (w_X5 cI cB a1 z0 ++ (w_X3 cI cB a2 4 z0 ++ (w_X3 cI cB a3 6 z0 ++ (w_X3 cI cB a4 6 z0))))) H := hP
  have hD : va_D A ([(b, .inr (4, [.ref (a1 0), .ref (a2 0), .ref (a3 0), .null, .null, .null, .int 0, .int 0, .int 0]))] ++ (w_X5 cI cB a1 z0 ++ (w_X3 cI cB a2 4 z0 ++ (w_X3 cI cB a3 6 z0 ++ (w_X3 cI cB a4 6 z0))))) := hD
  refine pfF F hnm hP hD hS in_X4_init_X4 tyX4 tyX4_ok nmX4 0 rfl rfl 3 (by decide) 13 rfl rfl rfl rfl rfl (Nat.le_of_ble_eq_true rfl) dX4_init_50 ([(b, .inr (4, [.ref (a1 0), .ref (a2 0), .ref (a3 0), .ref (a4 0), .null, .null, .int 0, .int 0, .int 0]))] ++ (w_X5 cI cB a1 z0 ++ (w_X3 cI cB a2 4 z0 ++ (w_X3 cI cB a3 6 z0 ++ (w_X3 cI cB a4 6 z0))))) rfl (fun H locs hP hD hS => ?_)
  refine lv_aload_n hx hb dX4_init_53 rfl (lv_at hl 0 rfl) ?_
  refine nwO F hP hD hS in_X4_init_X3 tyX3 tyX3_ok 8 9 10 rfl rfl rfl (ci := 3) rfl (fs := [.null]) df_X3 (Nat.le_of_ble_eq_true rfl) (Nat.le_of_ble_eq_true rfl) dX4_init_54 (fun q5 H hP hD hS => ?_)
  refine lv_dup hx hb dX4_init_57 rfl ?_
  refine lv_bipush (v := 6) hx hb dX4_init_58 (by decide) ?_
  refine nI_ F hP hD hS (k_X3_init l q5 6 6 (by decide) (by decide) (by decide)) gX4_init_X3_init rfl ⟨rfl, rfl⟩ 10 21 22 rfl rfl rfl rfl nd_X3_init ⟨Nat.le_of_ble_eq_true rfl, Nat.le_of_ble_eq_true rfl⟩ rfl hl.1 rfl (Nat.le_of_ble_eq_true rfl) dX4_init_60 ⟨Nat.le_of_ble_eq_true rfl, Nat.le_of_ble_eq_true rfl⟩ (fun a5 H locs h5 hP hD hS => ?_)
  rw [← h5]
  have hP : va_P D vwCl ([(b, .inr (4, [.ref (a1 0), .ref (a2 0), .ref (a3 0), .ref (a4 0), .null, .null, .int 0, .int 0, .int 0]))] ++ (w_X5 cI cB a1 z0 ++ (w_X3 cI cB a2 4 z0 ++ (w_X3 cI cB a3 6 z0 ++ (w_X3 cI cB a4 6 z0 ++ (w_X3 cI cB a5 6 z0)))))) H := hP
  have hD : va_D A ([(b, .inr (4, [.ref (a1 0), .ref (a2 0), .ref (a3 0), .ref (a4 0), .null, .null, .int 0, .int 0, .int 0]))] ++ (w_X5 cI cB a1 z0 ++ (w_X3 cI cB a2 4 z0 ++ (w_X3 cI cB a3 6 z0 ++ (w_X3 cI cB a4 6 z0 ++ (w_X3 cI cB a5 6 z0)))))) := hD
  refine pfF F hnm hP hD hS in_X4_init_X4 tyX4 tyX4_ok nmX4 0 rfl rfl 4 (by decide) 14 rfl rfl rfl rfl rfl (Nat.le_of_ble_eq_true rfl) dX4_init_63 ([(b, .inr (4, [.ref (a1 0), .ref (a2 0), .ref (a3 0), .ref (a4 0), .ref (a5 0), .null, .int 0, .int 0, .int 0]))] ++ (w_X5 cI cB a1 z0 ++ (w_X3 cI cB a2 4 z0 ++ (w_X3 cI cB a3 6 z0 ++ (w_X3 cI cB a4 6 z0 ++ (w_X3 cI cB a5 6 z0)))))) rfl (fun H locs hP hD hS => ?_)
  refine lv_aload_n hx hb dX4_init_66 rfl (lv_at hl 0 rfl) ?_
  refine nwO F hP hD hS in_X4_init_X3 tyX3 tyX3_ok 8 9 10 rfl rfl rfl (ci := 3) rfl (fs := [.null]) df_X3 (Nat.le_of_ble_eq_true rfl) (Nat.le_of_ble_eq_true rfl) dX4_init_67 (fun q6 H hP hD hS => ?_)
  refine lv_dup hx hb dX4_init_70 rfl ?_
  refine lv_bipush (v := 6) hx hb dX4_init_71 (by decide) ?_
  refine nI_ F hP hD hS (k_X3_init l q6 6 6 (by decide) (by decide) (by decide)) gX4_init_X3_init rfl ⟨rfl, rfl⟩ 10 21 22 rfl rfl rfl rfl nd_X3_init ⟨Nat.le_of_ble_eq_true rfl, Nat.le_of_ble_eq_true rfl⟩ rfl hl.1 rfl (Nat.le_of_ble_eq_true rfl) dX4_init_73 ⟨Nat.le_of_ble_eq_true rfl, Nat.le_of_ble_eq_true rfl⟩ (fun a6 H locs h6 hP hD hS => ?_)
  rw [← h6]
  have hP : va_P D vwCl ([(b, .inr (4, [.ref (a1 0), .ref (a2 0), .ref (a3 0), .ref (a4 0), .ref (a5 0), .null, .int 0, .int 0, .int 0]))] ++ (w_X5 cI cB a1 z0 ++ (w_X3 cI cB a2 4 z0 ++ (w_X3 cI cB a3 6 z0 ++ (w_X3 cI cB a4 6 z0 ++ (w_X3 cI cB a5 6 z0 ++ (w_X3 cI cB a6 6 z0))))))) H := hP
  have hD : va_D A ([(b, .inr (4, [.ref (a1 0), .ref (a2 0), .ref (a3 0), .ref (a4 0), .ref (a5 0), .null, .int 0, .int 0, .int 0]))] ++ (w_X5 cI cB a1 z0 ++ (w_X3 cI cB a2 4 z0 ++ (w_X3 cI cB a3 6 z0 ++ (w_X3 cI cB a4 6 z0 ++ (w_X3 cI cB a5 6 z0 ++ (w_X3 cI cB a6 6 z0))))))) := hD
  refine pfF F hnm hP hD hS in_X4_init_X4 tyX4 tyX4_ok nmX4 0 rfl rfl 5 (by decide) 15 rfl rfl rfl rfl rfl (Nat.le_of_ble_eq_true rfl) dX4_init_76 ([(b, .inr (4, [.ref (a1 0), .ref (a2 0), .ref (a3 0), .ref (a4 0), .ref (a5 0), .ref (a6 0), .int 0, .int 0, .int 0]))] ++ (w_X5 cI cB a1 z0 ++ (w_X3 cI cB a2 4 z0 ++ (w_X3 cI cB a3 6 z0 ++ (w_X3 cI cB a4 6 z0 ++ (w_X3 cI cB a5 6 z0 ++ (w_X3 cI cB a6 6 z0))))))) rfl (fun H locs hP hD hS => ?_)
  exact ret_n F (cat 1 (fun _ => b) (cat 2 a1 (cat 2 a2 (cat 2 a3 (cat 2 a4 (cat 2 a5 a6)))))) rfl hP hD hS (Nat.le_of_ble_eq_true rfl) (Nat.le_of_ble_eq_true rfl) dX4_init_79
set_option maxRecDepth 20000 in
theorem gX1_init_X4_init : GoodIn wsX1_init wsX4_init := goodIn_r _ [23, 24, 2, 3, 25, 26, 27, 28, 29, 5, 6, 30, 31, 32, 33, 34, 35, 36, 37, 20, 38, 39, 13, 14, 15, 16, 17, 18, 19, 21, 53, 44, 45, 46, 47, 48, 49, 50, 51, 52, 40] (by decide +kernel) (by decide +kernel)
def rm_X1_init : Room := { frames := 3, cells := 15, slots := 64, locals := 63 }
theorem in_X1_init_X1 : ∀ w ∈ u_ws RX1 TX1 3, w ∈ wsX1_init := fun _ h => List.mem_cons_of_mem _ (List.mem_append_left _ (List.mem_append_left _ (List.mem_append_right _ (h))))
theorem in_X1_init_X3 : ∀ w ∈ u_ws RX3 TX3 1, w ∈ wsX1_init := fun _ h => List.mem_cons_of_mem _ (List.mem_append_left _ (List.mem_append_left _ (List.mem_append_left _ (List.mem_append_right _ (h)))))
theorem in_X1_init_X4 : ∀ w ∈ u_ws RX4 TX4 9, w ∈ wsX1_init := fun _ h => List.mem_cons_of_mem _ (List.mem_append_left _ (List.mem_append_right _ (h)))
theorem nd_X1_init : yX1_init.cls ≠ "java/lang/invoke/MethodHandle" ∧ yX1_init.cls ≠ "java/lang/invoke/VarHandle" ∧ (parseMethodDescriptor yX1_init.desc).map (fun d => d.parameters.length) = some 0 := by decide +kernel
theorem df_X1 : ∀ j, j < 3 → defaultValue (tyX1 j) = vp_V [.null, .null, .int 0] j := by decide
set_option maxHeartbeats 4000000 in
set_option maxRecDepth 100000 in
theorem k_X1_init (l : Launch) {D : va_G} {cI cB : ClassId} {kK kV : Nat → Nat} (b : Nat) : Cn l yX1_init wsX1_init rm_X1_init D cI cB kK kV b [] [(b, .inr (1, [.null, .null, .int 0]))] 15 64 (fun ad => w_X1 cI cB ad z0 z0 z0 z0 z0 z0 z0 0 0 0 0) := by
  refine Cn.of (cc := cX1_init) (maxL := 1) (by decide) rfl rfl (Nat.le_of_ble_eq_true rfl) ?_
  intro p e s m below meth c A ls F hnm hP hD hS hl
  have hl : lv_has ls 1 [(0, .ref b)] := hl
  obtain ⟨hx, hb, hml, hown, hts, hrt, hlocks, hK, hA, hZ⟩ := id F
  refine lv_aload_n hx hb dX1_init_0 rfl (lv_at hl 0 rfl) ?_
  refine W.objInit hx hb hown (hts (.methodLink RX1 3 objectInit) (List.mem_of_getElem? (i := 1) rfl)) (hts (.instanceMethod objectInit) (List.mem_of_getElem? (i := 2) rfl)) (hts (.code objectInit ⟨#[0xb1]⟩ 1 none) (List.mem_of_getElem? (i := 3) rfl)) rfl (by rw [hml]; exact hl.1) rfl dX1_init_1 (Nat.le_of_ble_eq_true rfl) (Nat.le_of_ble_eq_true rfl) ?_
  refine W.eq (g2 := F0 m 4 ls []) rfl ?_
  refine lv_aload_n hx hb dX1_init_4 rfl (lv_at hl 0 rfl) ?_
  refine nwO F hP hD hS in_X1_init_X3 tyX3 tyX3_ok 4 5 6 rfl rfl rfl (ci := 3) rfl (fs := [.null]) df_X3 (Nat.le_of_ble_eq_true rfl) (Nat.le_of_ble_eq_true rfl) dX1_init_5 (fun q1 H hP hD hS => ?_)
  refine lv_dup hx hb dX1_init_8 rfl ?_
  refine lv_iconst (v := 4) hx hb dX1_init_9 (by decide) ?_
  refine nI_ F hP hD hS (k_X3_init l q1 4 4 (by decide) (by decide) (by decide)) gX1_init_X3_init rfl ⟨rfl, rfl⟩ 6 12 13 rfl rfl rfl rfl nd_X3_init ⟨Nat.le_of_ble_eq_true rfl, Nat.le_of_ble_eq_true rfl⟩ rfl hl.1 rfl (Nat.le_of_ble_eq_true rfl) dX1_init_10 ⟨Nat.le_of_ble_eq_true rfl, Nat.le_of_ble_eq_true rfl⟩ (fun a1 H locs h1 hP hD hS => ?_)
  rw [← h1]
  have hP : va_P D vwCl ([(b, .inr (1, [.null, .null, .int 0]))] ++ (w_X3 cI cB a1 4 z0)) H := hP
  have hD : va_D A ([(b, .inr (1, [.null, .null, .int 0]))] ++ (w_X3 cI cB a1 4 z0)) := hD
  refine pfF F hnm hP hD hS in_X1_init_X1 tyX1 tyX1_ok nmX1 0 rfl rfl 0 (by decide) 7 rfl rfl rfl rfl rfl (Nat.le_of_ble_eq_true rfl) dX1_init_13 ([(b, .inr (1, [.ref (a1 0), .null, .int 0]))] ++ (w_X3 cI cB a1 4 z0)) rfl (fun H locs hP hD hS => ?_)
  refine lv_aload_n hx hb dX1_init_16 rfl (lv_at hl 0 rfl) ?_
  refine nwO F hP hD hS in_X1_init_X4 tyX4 tyX4_ok 8 9 10 rfl rfl rfl (ci := 4) rfl (fs := [.null, .null, .null, .null, .null, .null, .int 0, .int 0, .int 0]) df_X4 (Nat.le_of_ble_eq_true rfl) (Nat.le_of_ble_eq_true rfl) dX1_init_17 (fun q2 H hP hD hS => ?_)
  refine lv_dup hx hb dX1_init_20 rfl ?_
  refine nIN F hP hD hS (k_X4_init l q2) gX1_init_X4_init rfl ⟨rfl, rfl⟩ 10 4 22 rfl rfl rfl rfl nd_X4_init ⟨Nat.le_of_ble_eq_true rfl, Nat.le_of_ble_eq_true rfl⟩ rfl hl.1 rfl (Nat.le_of_ble_eq_true rfl) dX1_init_21 ⟨Nat.le_of_ble_eq_true rfl, Nat.le_of_ble_eq_true rfl⟩ (fun a2 H locs h2 hP hD hS => ?_)
  rw [← h2]
  have hP : va_P D vwCl ([(b, .inr (1, [.ref (a1 0), .null, .int 0]))] ++ (w_X3 cI cB a1 4 z0 ++ (w_X4 cI cB a2 z0 z0 z0 z0 z0 z0 0 0 0))) H := hP
  have hD : va_D A ([(b, .inr (1, [.ref (a1 0), .null, .int 0]))] ++ (w_X3 cI cB a1 4 z0 ++ (w_X4 cI cB a2 z0 z0 z0 z0 z0 z0 0 0 0))) := hD
  refine pfF F hnm hP hD hS in_X1_init_X1 tyX1 tyX1_ok nmX1 0 rfl rfl 1 (by decide) 11 rfl rfl rfl rfl rfl (Nat.le_of_ble_eq_true rfl) dX1_init_24 ([(b, .inr (1, [.ref (a1 0), .ref (a2 0), .int 0]))] ++ (w_X3 cI cB a1 4 z0 ++ (w_X4 cI cB a2 z0 z0 z0 z0 z0 z0 0 0 0))) rfl (fun H locs hP hD hS => ?_)
  exact ret_n F (cat 1 (fun _ => b) (cat 2 a1 a2)) rfl hP hD hS (Nat.le_of_ble_eq_true rfl) (Nat.le_of_ble_eq_true rfl) dX1_init_27
def rm_X0_init : Room := { frames := 2, cells := 4, slots := 50, locals := 43 }
theorem in_X0_init_X0 : ∀ w ∈ u_ws RX0 TX0 7, w ∈ wsX0_init := fun _ h => List.mem_cons_of_mem _ (List.mem_append_right _ (h))
theorem in_X0_init_X3 : ∀ w ∈ u_ws RX3 TX3 1, w ∈ wsX0_init := fun _ h => List.mem_cons_of_mem _ (List.mem_append_left _ (List.mem_append_right _ (h)))
theorem nd_X0_init : yX0_init.cls ≠ "java/lang/invoke/MethodHandle" ∧ yX0_init.cls ≠ "java/lang/invoke/VarHandle" ∧ (parseMethodDescriptor yX0_init.desc).map (fun d => d.parameters.length) = some 0 := by decide +kernel
theorem df_X0 : ∀ j, j < 7 → defaultValue (tyX0 j) = vp_V [.null, .null, .int 0, .int 0, .int 0, .int 0, .int 0] j := by decide
set_option maxHeartbeats 4000000 in
set_option maxRecDepth 100000 in
theorem k_X0_init (l : Launch) {D : va_G} {cI cB : ClassId} {kK kV : Nat → Nat} (b : Nat) : Cn l yX0_init wsX0_init rm_X0_init D cI cB kK kV b [] [(b, .inr (0, [.null, .null, .int 0, .int 0, .int 0, .int 0, .int 0]))] 4 50 (fun ad => w_X0 cI cB ad z0 z0 0 0 0 0 0) := by
  refine Cn.of (cc := cX0_init) (maxL := 1) (by decide) rfl rfl (Nat.le_of_ble_eq_true rfl) ?_
  intro p e s m below meth c A ls F hnm hP hD hS hl
  have hl : lv_has ls 1 [(0, .ref b)] := hl
  obtain ⟨hx, hb, hml, hown, hts, hrt, hlocks, hK, hA, hZ⟩ := id F
  refine lv_aload_n hx hb dX0_init_0 rfl (lv_at hl 0 rfl) ?_
  refine W.objInit hx hb hown (hts (.methodLink RX0 3 objectInit) (List.mem_of_getElem? (i := 1) rfl)) (hts (.instanceMethod objectInit) (List.mem_of_getElem? (i := 2) rfl)) (hts (.code objectInit ⟨#[0xb1]⟩ 1 none) (List.mem_of_getElem? (i := 3) rfl)) rfl (by rw [hml]; exact hl.1) rfl dX0_init_1 (Nat.le_of_ble_eq_true rfl) (Nat.le_of_ble_eq_true rfl) ?_
  refine W.eq (g2 := F0 m 4 ls []) rfl ?_
  refine lv_aload_n hx hb dX0_init_4 rfl (lv_at hl 0 rfl) ?_
  refine nwO F hP hD hS in_X0_init_X3 tyX3 tyX3_ok 4 5 6 rfl rfl rfl (ci := 3) rfl (fs := [.null]) df_X3 (Nat.le_of_ble_eq_true rfl) (Nat.le_of_ble_eq_true rfl) dX0_init_5 (fun q1 H hP hD hS => ?_)
  refine lv_dup hx hb dX0_init_8 rfl ?_
  refine lv_bipush (v := 24) hx hb dX0_init_9 (by decide) ?_
  refine nI_ F hP hD hS (k_X3_init l q1 24 24 (by decide) (by decide) (by decide)) gX0_init_X3_init rfl ⟨rfl, rfl⟩ 6 9 10 rfl rfl rfl rfl nd_X3_init ⟨Nat.le_of_ble_eq_true rfl, Nat.le_of_ble_eq_true rfl⟩ rfl hl.1 rfl (Nat.le_of_ble_eq_true rfl) dX0_init_11 ⟨Nat.le_of_ble_eq_true rfl, Nat.le_of_ble_eq_true rfl⟩ (fun a1 H locs h1 hP hD hS => ?_)
  rw [← h1]
  have hP : va_P D vwCl ([(b, .inr (0, [.null, .null, .int 0, .int 0, .int 0, .int 0, .int 0]))] ++ (w_X3 cI cB a1 24 z0)) H := hP
  have hD : va_D A ([(b, .inr (0, [.null, .null, .int 0, .int 0, .int 0, .int 0, .int 0]))] ++ (w_X3 cI cB a1 24 z0)) := hD
  refine pfF F hnm hP hD hS in_X0_init_X0 tyX0 tyX0_ok nmX0 0 rfl rfl 0 (by decide) 7 rfl rfl rfl rfl rfl (Nat.le_of_ble_eq_true rfl) dX0_init_14 ([(b, .inr (0, [.ref (a1 0), .null, .int 0, .int 0, .int 0, .int 0, .int 0]))] ++ (w_X3 cI cB a1 24 z0)) rfl (fun H locs hP hD hS => ?_)
  refine lv_aload_n hx hb dX0_init_17 rfl (lv_at hl 0 rfl) ?_
  refine nwO F hP hD hS in_X0_init_X3 tyX3 tyX3_ok 4 5 6 rfl rfl rfl (ci := 3) rfl (fs := [.null]) df_X3 (Nat.le_of_ble_eq_true rfl) (Nat.le_of_ble_eq_true rfl) dX0_init_18 (fun q2 H hP hD hS => ?_)
  refine lv_dup hx hb dX0_init_21 rfl ?_
  refine lv_bipush (v := 24) hx hb dX0_init_22 (by decide) ?_
  refine nI_ F hP hD hS (k_X3_init l q2 24 24 (by decide) (by decide) (by decide)) gX0_init_X3_init rfl ⟨rfl, rfl⟩ 6 9 10 rfl rfl rfl rfl nd_X3_init ⟨Nat.le_of_ble_eq_true rfl, Nat.le_of_ble_eq_true rfl⟩ rfl hl.1 rfl (Nat.le_of_ble_eq_true rfl) dX0_init_24 ⟨Nat.le_of_ble_eq_true rfl, Nat.le_of_ble_eq_true rfl⟩ (fun a2 H locs h2 hP hD hS => ?_)
  rw [← h2]
  have hP : va_P D vwCl ([(b, .inr (0, [.ref (a1 0), .null, .int 0, .int 0, .int 0, .int 0, .int 0]))] ++ (w_X3 cI cB a1 24 z0 ++ (w_X3 cI cB a2 24 z0))) H := hP
  have hD : va_D A ([(b, .inr (0, [.ref (a1 0), .null, .int 0, .int 0, .int 0, .int 0, .int 0]))] ++ (w_X3 cI cB a1 24 z0 ++ (w_X3 cI cB a2 24 z0))) := hD
  refine pfF F hnm hP hD hS in_X0_init_X0 tyX0 tyX0_ok nmX0 0 rfl rfl 1 (by decide) 8 rfl rfl rfl rfl rfl (Nat.le_of_ble_eq_true rfl) dX0_init_27 ([(b, .inr (0, [.ref (a1 0), .ref (a2 0), .int 0, .int 0, .int 0, .int 0, .int 0]))] ++ (w_X3 cI cB a1 24 z0 ++ (w_X3 cI cB a2 24 z0))) rfl (fun H locs hP hD hS => ?_)
  exact ret_n F (cat 1 (fun _ => b) (cat 2 a1 a2)) rfl hP hD hS (Nat.le_of_ble_eq_true rfl) (Nat.le_of_ble_eq_true rfl) dX0_init_30
set_option maxRecDepth 20000 in
theorem gX6_init_X2_init : GoodIn wsX6_init wsX2_init := goodIn_r _ [23, 24, 2, 3, 25, 26, 27, 28, 29, 30, 31, 32, 33, 34, 35, 36, 37, 38, 99, 72, 73] (by decide +kernel) (by decide +kernel)
set_option maxRecDepth 20000 in
theorem gX6_init_X1_init : GoodIn wsX6_init wsX1_init := goodIn_r _ [40, 41, 2, 3, 42, 26, 27, 43, 44, 17, 18, 45, 46, 30, 31, 32, 33, 34, 35, 36, 37, 38, 47, 48, 49, 50, 51, 52, 53, 54, 55, 56, 57, 58, 59, 60, 61, 62, 63, 64, 99, 80, 81, 82, 90, 91, 92, 93, 94, 95, 96, 97, 98, 100] (by decide +kernel) (by decide +kernel)
set_option maxRecDepth 20000 in
theorem gX6_init_X0_init : GoodIn wsX6_init wsX0_init := goodIn_r _ [66, 67, 2, 3, 68, 26, 27, 69, 70, 71, 30, 31, 32, 33, 34, 35, 36, 37, 38, 99, 83, 84, 85, 86, 87, 88, 89] (by decide +kernel) (by decide +kernel)
set_option maxRecDepth 20000 in
theorem gX6_init_X4_init : GoodIn wsX6_init wsX4_init := goodIn_r _ [48, 49, 2, 3, 50, 51, 52, 53, 54, 26, 27, 55, 56, 57, 58, 59, 60, 61, 62, 37, 63, 64, 30, 31, 32, 33, 34, 35, 36, 38, 100, 90, 91, 92, 93, 94, 95, 96, 97, 98, 99] (by decide +kernel) (by decide +kernel)
def rm_X6_init : Room := { frames := 4, cells := 37, slots := 211, locals := 83 }
theorem in_X6_init_X0 : ∀ w ∈ u_ws RX0 TX0 7, w ∈ wsX6_init := fun _ h => List.mem_cons_of_mem _ (List.mem_append_left _ (List.mem_append_left _ (List.mem_append_left _ (List.mem_append_right _ (h)))))
theorem in_X6_init_X1 : ∀ w ∈ u_ws RX1 TX1 3, w ∈ wsX6_init := fun _ h => List.mem_cons_of_mem _ (List.mem_append_left _ (List.mem_append_left _ (List.mem_append_left _ (List.mem_append_left _ (List.mem_append_right _ (h))))))
theorem in_X6_init_X2 : ∀ w ∈ u_ws RX2 TX2 2, w ∈ wsX6_init := fun _ h => List.mem_cons_of_mem _ (List.mem_append_left _ (List.mem_append_left _ (List.mem_append_left _ (List.mem_append_left _ (List.mem_append_left _ (List.mem_append_left _ (List.mem_append_right _ (h))))))))
theorem in_X6_init_X4 : ∀ w ∈ u_ws RX4 TX4 9, w ∈ wsX6_init := fun _ h => List.mem_cons_of_mem _ (List.mem_append_left _ (List.mem_append_left _ (List.mem_append_right _ (h))))
theorem in_X6_init_X6 : ∀ w ∈ u_ws RX6 TX6 6, w ∈ wsX6_init := fun _ h => List.mem_cons_of_mem _ (List.mem_append_left _ (List.mem_append_left _ (List.mem_append_left _ (List.mem_append_left _ (List.mem_append_left _ (List.mem_append_right _ (h)))))))
theorem nd_X6_init : yX6_init.cls ≠ "java/lang/invoke/MethodHandle" ∧ yX6_init.cls ≠ "java/lang/invoke/VarHandle" ∧ (parseMethodDescriptor yX6_init.desc).map (fun d => d.parameters.length) = some 0 := by decide +kernel
theorem df_X6 : ∀ j, j < 6 → defaultValue (tyX6 j) = vp_V [.null, .null, .null, .null, .int 0, .int 0] j := by decide
set_option maxHeartbeats 4000000 in
set_option maxRecDepth 100000 in
theorem k_X6_init (l : Launch) {D : va_G} {cI cB : ClassId} {kK kV : Nat → Nat} (b : Nat) : Cn l yX6_init wsX6_init rm_X6_init D cI cB kK kV b [] [(b, .inr (6, [.null, .null, .null, .null, .int 0, .int 0]))] 37 211 (fun ad => w_X6 cI cB ad z0 0 z0 z0 z0 z0 z0 z0 z0 0 0 0 0 z0 z0 0 0 0 0 0 z0 z0 z0 z0 z0 z0 0 0 0 0 0) := by
  refine Cn.of (cc := cX6_init) (maxL := 1) (by decide) rfl rfl (Nat.le_of_ble_eq_true rfl) ?_
  intro p e s m below meth c A ls F hnm hP hD hS hl
  have hl : lv_has ls 1 [(0, .ref b)] := hl
  obtain ⟨hx, hb, hml, hown, hts, hrt, hlocks, hK, hA, hZ⟩ := id F
  refine lv_aload_n hx hb dX6_init_0 rfl (lv_at hl 0 rfl) ?_
  refine W.objInit hx hb hown (hts (.methodLink RX6 3 objectInit) (List.mem_of_getElem? (i := 1) rfl)) (hts (.instanceMethod objectInit) (List.mem_of_getElem? (i := 2) rfl)) (hts (.code objectInit ⟨#[0xb1]⟩ 1 none) (List.mem_of_getElem? (i := 3) rfl)) rfl (by rw [hml]; exact hl.1) rfl dX6_init_1 (Nat.le_of_ble_eq_true rfl) (Nat.le_of_ble_eq_true rfl) ?_
  refine W.eq (g2 := F0 m 4 ls []) rfl ?_
  refine lv_aload_n hx hb dX6_init_4 rfl (lv_at hl 0 rfl) ?_
  refine nwO F hP hD hS in_X6_init_X2 tyX2 tyX2_ok 4 5 6 rfl rfl rfl (ci := 2) rfl (fs := [.null, .int 0]) df_X2 (Nat.le_of_ble_eq_true rfl) (Nat.le_of_ble_eq_true rfl) dX6_init_5 (fun q1 H hP hD hS => ?_)
  refine lv_dup hx hb dX6_init_8 rfl ?_
  refine nIN F hP hD hS (k_X2_init l q1) gX6_init_X2_init rfl ⟨rfl, rfl⟩ 6 0 22 rfl rfl rfl rfl nd_X2_init ⟨Nat.le_of_ble_eq_true rfl, Nat.le_of_ble_eq_true rfl⟩ rfl hl.1 rfl (Nat.le_of_ble_eq_true rfl) dX6_init_9 ⟨Nat.le_of_ble_eq_true rfl, Nat.le_of_ble_eq_true rfl⟩ (fun a1 H locs h1 hP hD hS => ?_)
  rw [← h1]
  have hP : va_P D vwCl ([(b, .inr (6, [.null, .null, .null, .null, .int 0, .int 0]))] ++ (w_X2 cI cB a1 z0 0)) H := hP
  have hD : va_D A ([(b, .inr (6, [.null, .null, .null, .null, .int 0, .int 0]))] ++ (w_X2 cI cB a1 z0 0)) := hD
  refine pfF F hnm hP hD hS in_X6_init_X6 tyX6 tyX6_ok nmX6 0 rfl rfl 0 (by decide) 7 rfl rfl rfl rfl rfl (Nat.le_of_ble_eq_true rfl) dX6_init_12 ([(b, .inr (6, [.ref (a1 0), .null, .null, .null, .int 0, .int 0]))] ++ (w_X2 cI cB a1 z0 0)) rfl (fun H locs hP hD hS => ?_)
  refine lv_aload_n hx hb dX6_init_15 rfl (lv_at hl 0 rfl) ?_
  refine nwO F hP hD hS in_X6_init_X1 tyX1 tyX1_ok 8 9 10 rfl rfl rfl (ci := 1) rfl (fs := [.null, .null, .int 0]) df_X1 (Nat.le_of_ble_eq_true rfl) (Nat.le_of_ble_eq_true rfl) dX6_init_16 (fun q2 H hP hD hS => ?_)
  refine lv_dup hx hb dX6_init_19 rfl ?_
  refine nIN F hP hD hS (k_X1_init l q2) gX6_init_X1_init rfl ⟨rfl, rfl⟩ 10 1 39 rfl rfl rfl rfl nd_X1_init ⟨Nat.le_of_ble_eq_true rfl, Nat.le_of_ble_eq_true rfl⟩ rfl hl.1 rfl (Nat.le_of_ble_eq_true rfl) dX6_init_20 ⟨Nat.le_of_ble_eq_true rfl, Nat.le_of_ble_eq_true rfl⟩ (fun a2 H locs h2 hP hD hS => ?_)
  rw [← h2]
  have hP : va_P D vwCl ([(b, .inr (6, [.ref (a1 0), .null, .null, .null, .int 0, .int 0]))] ++ (w_X2 cI cB a1 z0 0 ++ (w_X1 cI cB a2 z0 z0 z0 z0 z0 z0 z0 0 0 0 0))) H := hP
  have hD : va_D A ([(b, .inr (6, [.ref (a1 0), .null, .null, .null, .int 0, .int 0]))] ++ (w_X2 cI cB a1 z0 0 ++ (w_X1 cI cB a2 z0 z0 z0 z0 z0 z0 z0 0 0 0 0))) := hD
  refine pfF F hnm hP hD hS in_X6_init_X6 tyX6 tyX6_ok nmX6 0 rfl rfl 1 (by decide) 11 rfl rfl rfl rfl rfl (Nat.le_of_ble_eq_true rfl) dX6_init_23 ([(b, .inr (6, [.ref (a1 0), .ref (a2 0), .null, .null, .int 0, .int 0]))] ++ (w_X2 cI cB a1 z0 0 ++ (w_X1 cI cB a2 z0 z0 z0 z0 z0 z0 z0 0 0 0 0))) rfl (fun H locs hP hD hS => ?_)
  refine lv_aload_n hx hb dX6_init_26 rfl (lv_at hl 0 rfl) ?_
  refine nwO F hP hD hS in_X6_init_X0 tyX0 tyX0_ok 12 13 14 rfl rfl rfl (ci := 0) rfl (fs := [.null, .null, .int 0, .int 0, .int 0, .int 0, .int 0]) df_X0 (Nat.le_of_ble_eq_true rfl) (Nat.le_of_ble_eq_true rfl) dX6_init_27 (fun q3 H hP hD hS => ?_)
  refine lv_dup hx hb dX6_init_30 rfl ?_
  refine nIN F hP hD hS (k_X0_init l q3) gX6_init_X0_init rfl ⟨rfl, rfl⟩ 14 2 65 rfl rfl rfl rfl nd_X0_init ⟨Nat.le_of_ble_eq_true rfl, Nat.le_of_ble_eq_true rfl⟩ rfl hl.1 rfl (Nat.le_of_ble_eq_true rfl) dX6_init_31 ⟨Nat.le_of_ble_eq_true rfl, Nat.le_of_ble_eq_true rfl⟩ (fun a3 H locs h3 hP hD hS => ?_)
  rw [← h3]
  have hP : va_P D vwCl ([(b, .inr (6, [.ref (a1 0), .ref (a2 0), .null, .null, .int 0, .int 0]))] ++ (w_X2 cI cB a1 z0 0 ++ (w_X1 cI cB a2 z0 z0 z0 z0 z0 z0 z0 0 0 0 0 ++ (w_X0 cI cB a3 z0 z0 0 0 0 0 0)))) H := hP
  have hD : va_D A ([(b, .inr (6, [.ref (a1 0), .ref (a2 0), .null, .null, .int 0, .int 0]))] ++ (w_X2 cI cB a1 z0 0 ++ (w_X1 cI cB a2 z0 z0 z0 z0 z0 z0 z0 0 0 0 0 ++ (w_X0 cI cB a3 z0 z0 0 0 0 0 0)))) := hD
  refine pfF F hnm hP hD hS in_X6_init_X6 tyX6 tyX6_ok nmX6 0 rfl rfl 2 (by decide) 15 rfl rfl rfl rfl rfl (Nat.le_of_ble_eq_true rfl) dX6_init_34 ([(b, .inr (6, [.ref (a1 0), .ref (a2 0), .ref (a3 0), .null, .int 0, .int 0]))] ++ (w_X2 cI cB a1 z0 0 ++ (w_X1 cI cB a2 z0 z0 z0 z0 z0 z0 z0 0 0 0 0 ++ (w_X0 cI cB a3 z0 z0 0 0 0 0 0)))) rfl (fun H locs hP hD hS => ?_)
  refine lv_aload_n hx hb dX6_init_37 rfl (lv_at hl 0 rfl) ?_
  refine nwO F hP hD hS in_X6_init_X4 tyX4 tyX4_ok 16 17 18 rfl rfl rfl (ci := 4) rfl (fs := [.null, .null, .null, .null, .null, .null, .int 0, .int 0, .int 0]) df_X4 (Nat.le_of_ble_eq_true rfl) (Nat.le_of_ble_eq_true rfl) dX6_init_38 (fun q4 H hP hD hS => ?_)
  refine lv_dup hx hb dX6_init_41 rfl ?_
  refine nIN F hP hD hS (k_X4_init l q4) gX6_init_X4_init rfl ⟨rfl, rfl⟩ 18 3 47 rfl rfl rfl rfl nd_X4_init ⟨Nat.le_of_ble_eq_true rfl, Nat.le_of_ble_eq_true rfl⟩ rfl hl.1 rfl (Nat.le_of_ble_eq_true rfl) dX6_init_42 ⟨Nat.le_of_ble_eq_true rfl, Nat.le_of_ble_eq_true rfl⟩ (fun a4 H locs h4 hP hD hS => ?_)
  rw [← h4]
  have hP : va_P D vwCl ([(b, .inr (6, [.ref (a1 0), .ref (a2 0), .ref (a3 0), .null, .int 0, .int 0]))] ++ (w_X2 cI cB a1 z0 0 ++ (w_X1 cI cB a2 z0 z0 z0 z0 z0 z0 z0 0 0 0 0 ++ (w_X0 cI cB a3 z0 z0 0 0 0 0 0 ++ (w_X4 cI cB a4 z0 z0 z0 z0 z0 z0 0 0 0))))) H := hP
  have hD : va_D A ([(b, .inr (6, [.ref (a1 0), .ref (a2 0), .ref (a3 0), .null, .int 0, .int 0]))] ++ (w_X2 cI cB a1 z0 0 ++ (w_X1 cI cB a2 z0 z0 z0 z0 z0 z0 z0 0 0 0 0 ++ (w_X0 cI cB a3 z0 z0 0 0 0 0 0 ++ (w_X4 cI cB a4 z0 z0 z0 z0 z0 z0 0 0 0))))) := hD
  refine pfF F hnm hP hD hS in_X6_init_X6 tyX6 tyX6_ok nmX6 0 rfl rfl 3 (by decide) 19 rfl rfl rfl rfl rfl (Nat.le_of_ble_eq_true rfl) dX6_init_45 ([(b, .inr (6, [.ref (a1 0), .ref (a2 0), .ref (a3 0), .ref (a4 0), .int 0, .int 0]))] ++ (w_X2 cI cB a1 z0 0 ++ (w_X1 cI cB a2 z0 z0 z0 z0 z0 z0 z0 0 0 0 0 ++ (w_X0 cI cB a3 z0 z0 0 0 0 0 0 ++ (w_X4 cI cB a4 z0 z0 z0 z0 z0 z0 0 0 0))))) rfl (fun H locs hP hD hS => ?_)
  refine lv_aload_n hx hb dX6_init_48 rfl (lv_at hl 0 rfl) ?_
  refine lv_iconst (v := 0) hx hb dX6_init_49 (by decide) ?_
  refine pfC F hP hD hS in_X6_init_X6 tyX6 tyX6_ok nmX6 0 rfl rfl 4 (by decide) 20 rfl rfl rfl rfl (Nat.le_of_ble_eq_true rfl) dX6_init_50 ([(b, .inr (6, [.ref (a1 0), .ref (a2 0), .ref (a3 0), .ref (a4 0), .int 0, .int 0]))] ++ (w_X2 cI cB a1 z0 0 ++ (w_X1 cI cB a2 z0 z0 z0 z0 z0 z0 z0 0 0 0 0 ++ (w_X0 cI cB a3 z0 z0 0 0 0 0 0 ++ (w_X4 cI cB a4 z0 z0 z0 z0 z0 z0 0 0 0))))) rfl (fun H locs hP hD hS => ?_)
  refine lv_aload_n hx hb dX6_init_53 rfl (lv_at hl 0 rfl) ?_
  refine lv_iconst (v := 0) hx hb dX6_init_54 (by decide) ?_
  refine pfC F hP hD hS in_X6_init_X6 tyX6 tyX6_ok nmX6 0 rfl rfl 5 (by decide) 21 rfl rfl rfl rfl (Nat.le_of_ble_eq_true rfl) dX6_init_55 ([(b, .inr (6, [.ref (a1 0), .ref (a2 0), .ref (a3 0), .ref (a4 0), .int 0, .int 0]))] ++ (w_X2 cI cB a1 z0 0 ++ (w_X1 cI cB a2 z0 z0 z0 z0 z0 z0 z0 0 0 0 0 ++ (w_X0 cI cB a3 z0 z0 0 0 0 0 0 ++ (w_X4 cI cB a4 z0 z0 z0 z0 z0 z0 0 0 0))))) rfl (fun H locs hP hD hS => ?_)
  exact ret_n F (cat 1 (fun _ => b) (cat 3 a1 (cat 16 a2 (cat 5 a3 a4)))) rfl hP hD hS (Nat.le_of_ble_eq_true rfl) (Nat.le_of_ble_eq_true rfl) dX6_init_58
def rm_X7_init : Room := { frames := 1, cells := 20, slots := 405, locals := 12 }
theorem in_X7_init_X7 : ∀ w ∈ u_ws RX7 TX7 35, w ∈ wsX7_init := fun _ h => List.mem_cons_of_mem _ (List.mem_append_right _ (h))
theorem nd_X7_init : yX7_init.cls ≠ "java/lang/invoke/MethodHandle" ∧ yX7_init.cls ≠ "java/lang/invoke/VarHandle" ∧ (parseMethodDescriptor yX7_init.desc).map (fun d => d.parameters.length) = some 0 := by decide +kernel
theorem df_X7 : ∀ j, j < 35 → defaultValue (tyX7 j) = vp_V [.int 0, .int 0, .null, .null, .null, .null, .int 0, .int 0, .null, .null, .null, .null, .int 0, .null, .null, .null, .null, .int 0, .int 0, .int 0, .int 0, .long 0, .null, .int 0, .int 0, .int 0, .int 0, .null, .null, .null, .null, .null, .null, .null, .long 0] j := by decide
set_option maxHeartbeats 4000000 in
set_option maxRecDepth 100000 in
theorem k_X7_init (l : Launch) {D : va_G} {cI cB : ClassId} {kK kV : Nat → Nat} (b : Nat) : Cn l yX7_init wsX7_init rm_X7_init D cI cB kK kV b [] [(b, .inr (7, [.int 0, .int 0, .null, .null, .null, .null, .int 0, .int 0, .null, .null, .null, .null, .int 0, .null, .null, .null, .null, .int 0, .int 0, .int 0, .int 0, .long 0, .null, .int 0, .int 0, .int 0, .int 0, .null, .null, .null, .null, .null, .null, .null, .long 0]))] 20 405 (fun ad => w_X7 cI cB ad 0 0 z0 z0 z0 z0 0 0 z0 z0 z0 z0 0 z0 z0 z0 z0 0 0 0 0 0 z0 0 0 0 0 z0 z0 z0 z0 z0 z0 z0 0) := by
  refine Cn.of (cc := cX7_init) (maxL := 1) (by decide) rfl rfl (Nat.le_of_ble_eq_true rfl) ?_
  intro p e s m below meth c A ls F hnm hP hD hS hl
  have hl : lv_has ls 1 [(0, .ref b)] := hl
  obtain ⟨hx, hb, hml, hown, hts, hrt, hlocks, hK, hA, hZ⟩ := id F
  refine lv_aload_n hx hb dX7_init_0 rfl (lv_at hl 0 rfl) ?_
  refine W.objInit hx hb hown (hts (.methodLink RX7 1 objectInit) (List.mem_of_getElem? (i := 1) rfl)) (hts (.instanceMethod objectInit) (List.mem_of_getElem? (i := 2) rfl)) (hts (.code objectInit ⟨#[0xb1]⟩ 1 none) (List.mem_of_getElem? (i := 3) rfl)) rfl (by rw [hml]; exact hl.1) rfl dX7_init_1 (Nat.le_of_ble_eq_true rfl) (Nat.le_of_ble_eq_true rfl) ?_
  refine W.eq (g2 := F0 m 4 ls []) rfl ?_
  refine lv_aload_n hx hb dX7_init_4 rfl (lv_at hl 0 rfl) ?_
  refine lv_iconst (v := 4) hx hb dX7_init_5 (by decide) ?_
  refine nwI F hP hD hS 4 rfl (N := 4) (by decide) (by decide) (by decide) (Nat.le_of_ble_eq_true rfl) (Nat.le_of_ble_eq_true rfl) dX7_init_6 (fun q1 H hP hD hS => ?_)
  have hP : va_P D vwCl [(b, .inr (7, [.int 0, .int 0, .null, .null, .null, .null, .int 0, .int 0, .null, .null, .null, .null, .int 0, .null, .null, .null, .null, .int 0, .int 0, .int 0, .int 0, .long 0, .null, .int 0, .int 0, .int 0, .int 0, .null, .null, .null, .null, .null, .null, .null, .long 0])), (q1, .inl (cI, 4, .inl z0))] H := hP
  have hD : va_D A [(b, .inr (7, [.int 0, .int 0, .null, .null, .null, .null, .int 0, .int 0, .null, .null, .null, .null, .int 0, .null, .null, .null, .null, .int 0, .int 0, .int 0, .int 0, .long 0, .null, .int 0, .int 0, .int 0, .int 0, .null, .null, .null, .null, .null, .null, .null, .long 0])), (q1, .inl (cI, 4, .inl z0))] := hD
  refine pfF F hnm hP hD hS in_X7_init_X7 tyX7 tyX7_ok nmX7 0 rfl rfl 2 (by decide) 5 rfl rfl rfl rfl rfl (Nat.le_of_ble_eq_true rfl) dX7_init_8 [(b, .inr (7, [.int 0, .int 0, .ref q1, .null, .null, .null, .int 0, .int 0, .null, .null, .null, .null, .int 0, .null, .null, .null, .null, .int 0, .int 0, .int 0, .int 0, .long 0, .null, .int 0, .int 0, .int 0, .int 0, .null, .null, .null, .null, .null, .null, .null, .long 0])), (q1, .inl (cI, 4, .inl z0))] rfl (fun H locs hP hD hS => ?_)
  refine lv_aload_n hx hb dX7_init_11 rfl (lv_at hl 0 rfl) ?_
  refine lv_bipush (v := 16) hx hb dX7_init_12 (by decide) ?_
  refine nwI F hP hD hS 4 rfl (N := 16) (by decide) (by decide) (by decide) (Nat.le_of_ble_eq_true rfl) (Nat.le_of_ble_eq_true rfl) dX7_init_14 (fun q2 H hP hD hS => ?_)
  have hP : va_P D vwCl [(b, .inr (7, [.int 0, .int 0, .ref q1, .null, .null, .null, .int 0, .int 0, .null, .null, .null, .null, .int 0, .null, .null, .null, .null, .int 0, .int 0, .int 0, .int 0, .long 0, .null, .int 0, .int 0, .int 0, .int 0, .null, .null, .null, .null, .null, .null, .null, .long 0])), (q1, .inl (cI, 4, .inl z0)), (q2, .inl (cI, 16, .inl z0))] H := hP
  have hD : va_D A [(b, .inr (7, [.int 0, .int 0, .ref q1, .null, .null, .null, .int 0, .int 0, .null, .null, .null, .null, .int 0, .null, .null, .null, .null, .int 0, .int 0, .int 0, .int 0, .long 0, .null, .int 0, .int 0, .int 0, .int 0, .null, .null, .null, .null, .null, .null, .null, .long 0])), (q1, .inl (cI, 4, .inl z0)), (q2, .inl (cI, 16, .inl z0))] := hD
  refine pfF F hnm hP hD hS in_X7_init_X7 tyX7 tyX7_ok nmX7 0 rfl rfl 3 (by decide) 6 rfl rfl rfl rfl rfl (Nat.le_of_ble_eq_true rfl) dX7_init_16 [(b, .inr (7, [.int 0, .int 0, .ref q1, .ref q2, .null, .null, .int 0, .int 0, .null, .null, .null, .null, .int 0, .null, .null, .null, .null, .int 0, .int 0, .int 0, .int 0, .long 0, .null, .int 0, .int 0, .int 0, .int 0, .null, .null, .null, .null, .null, .null, .null, .long 0])), (q1, .inl (cI, 4, .inl z0)), (q2, .inl (cI, 16, .inl z0))] rfl (fun H locs hP hD hS => ?_)
  refine lv_aload_n hx hb dX7_init_19 rfl (lv_at hl 0 rfl) ?_
  refine lv_iconst (v := 4) hx hb dX7_init_20 (by decide) ?_
  refine nwI F hP hD hS 4 rfl (N := 4) (by decide) (by decide) (by decide) (Nat.le_of_ble_eq_true rfl) (Nat.le_of_ble_eq_true rfl) dX7_init_21 (fun q3 H hP hD hS => ?_)
  have hP : va_P D vwCl [(b, .inr (7, [.int 0, .int 0, .ref q1, .ref q2, .null, .null, .int 0, .int 0, .null, .null, .null, .null, .int 0, .null, .null, .null, .null, .int 0, .int 0, .int 0, .int 0, .long 0, .null, .int 0, .int 0, .int 0, .int 0, .null, .null, .null, .null, .null, .null, .null, .long 0])), (q1, .inl (cI, 4, .inl z0)), (q2, .inl (cI, 16, .inl z0)), (q3, .inl (cI, 4, .inl z0))] H := hP
  have hD : va_D A [(b, .inr (7, [.int 0, .int 0, .ref q1, .ref q2, .null, .null, .int 0, .int 0, .null, .null, .null, .null, .int 0, .null, .null, .null, .null, .int 0, .int 0, .int 0, .int 0, .long 0, .null, .int 0, .int 0, .int 0, .int 0, .null, .null, .null, .null, .null, .null, .null, .long 0])), (q1, .inl (cI, 4, .inl z0)), (q2, .inl (cI, 16, .inl z0)), (q3, .inl (cI, 4, .inl z0))] := hD
  refine pfF F hnm hP hD hS in_X7_init_X7 tyX7 tyX7_ok nmX7 0 rfl rfl 4 (by decide) 7 rfl rfl rfl rfl rfl (Nat.le_of_ble_eq_true rfl) dX7_init_23 [(b, .inr (7, [.int 0, .int 0, .ref q1, .ref q2, .ref q3, .null, .int 0, .int 0, .null, .null, .null, .null, .int 0, .null, .null, .null, .null, .int 0, .int 0, .int 0, .int 0, .long 0, .null, .int 0, .int 0, .int 0, .int 0, .null, .null, .null, .null, .null, .null, .null, .long 0])), (q1, .inl (cI, 4, .inl z0)), (q2, .inl (cI, 16, .inl z0)), (q3, .inl (cI, 4, .inl z0))] rfl (fun H locs hP hD hS => ?_)
  refine lv_aload_n hx hb dX7_init_26 rfl (lv_at hl 0 rfl) ?_
  refine lv_iconst (v := 4) hx hb dX7_init_27 (by decide) ?_
  refine nwI F hP hD hS 4 rfl (N := 4) (by decide) (by decide) (by decide) (Nat.le_of_ble_eq_true rfl) (Nat.le_of_ble_eq_true rfl) dX7_init_28 (fun q4 H hP hD hS => ?_)
  have hP : va_P D vwCl [(b, .inr (7, [.int 0, .int 0, .ref q1, .ref q2, .ref q3, .null, .int 0, .int 0, .null, .null, .null, .null, .int 0, .null, .null, .null, .null, .int 0, .int 0, .int 0, .int 0, .long 0, .null, .int 0, .int 0, .int 0, .int 0, .null, .null, .null, .null, .null, .null, .null, .long 0])), (q1, .inl (cI, 4, .inl z0)), (q2, .inl (cI, 16, .inl z0)), (q3, .inl (cI, 4, .inl z0)), (q4, .inl (cI, 4, .inl z0))] H := hP
  have hD : va_D A [(b, .inr (7, [.int 0, .int 0, .ref q1, .ref q2, .ref q3, .null, .int 0, .int 0, .null, .null, .null, .null, .int 0, .null, .null, .null, .null, .int 0, .int 0, .int 0, .int 0, .long 0, .null, .int 0, .int 0, .int 0, .int 0, .null, .null, .null, .null, .null, .null, .null, .long 0])), (q1, .inl (cI, 4, .inl z0)), (q2, .inl (cI, 16, .inl z0)), (q3, .inl (cI, 4, .inl z0)), (q4, .inl (cI, 4, .inl z0))] := hD
  refine pfF F hnm hP hD hS in_X7_init_X7 tyX7 tyX7_ok nmX7 0 rfl rfl 5 (by decide) 8 rfl rfl rfl rfl rfl (Nat.le_of_ble_eq_true rfl) dX7_init_30 [(b, .inr (7, [.int 0, .int 0, .ref q1, .ref q2, .ref q3, .ref q4, .int 0, .int 0, .null, .null, .null, .null, .int 0, .null, .null, .null, .null, .int 0, .int 0, .int 0, .int 0, .long 0, .null, .int 0, .int 0, .int 0, .int 0, .null, .null, .null, .null, .null, .null, .null, .long 0])), (q1, .inl (cI, 4, .inl z0)), (q2, .inl (cI, 16, .inl z0)), (q3, .inl (cI, 4, .inl z0)), (q4, .inl (cI, 4, .inl z0))] rfl (fun H locs hP hD hS => ?_)
  refine lv_aload_n hx hb dX7_init_33 rfl (lv_at hl 0 rfl) ?_
  refine lv_bipush (v := 6) hx hb dX7_init_34 (by decide) ?_
  refine nwI F hP hD hS 4 rfl (N := 6) (by decide) (by decide) (by decide) (Nat.le_of_ble_eq_true rfl) (Nat.le_of_ble_eq_true rfl) dX7_init_36 (fun q5 H hP hD hS => ?_)
  have hP : va_P D vwCl [(b, .inr (7, [.int 0, .int 0, .ref q1, .ref q2, .ref q3, .ref q4, .int 0, .int 0, .null, .null, .null, .null, .int 0, .null, .null, .null, .null, .int 0, .int 0, .int 0, .int 0, .long 0, .null, .int 0, .int 0, .int 0, .int 0, .null, .null, .null, .null, .null, .null, .null, .long 0])), (q1, .inl (cI, 4, .inl z0)), (q2, .inl (cI, 16, .inl z0)), (q3, .inl (cI, 4, .inl z0)), (q4, .inl (cI, 4, .inl z0)), (q5, .inl (cI, 6, .inl z0))] H := hP
  have hD : va_D A [(b, .inr (7, [.int 0, .int 0, .ref q1, .ref q2, .ref q3, .ref q4, .int 0, .int 0, .null, .null, .null, .null, .int 0, .null, .null, .null, .null, .int 0, .int 0, .int 0, .int 0, .long 0, .null, .int 0, .int 0, .int 0, .int 0, .null, .null, .null, .null, .null, .null, .null, .long 0])), (q1, .inl (cI, 4, .inl z0)), (q2, .inl (cI, 16, .inl z0)), (q3, .inl (cI, 4, .inl z0)), (q4, .inl (cI, 4, .inl z0)), (q5, .inl (cI, 6, .inl z0))] := hD
  refine pfF F hnm hP hD hS in_X7_init_X7 tyX7 tyX7_ok nmX7 0 rfl rfl 8 (by decide) 9 rfl rfl rfl rfl rfl (Nat.le_of_ble_eq_true rfl) dX7_init_38 [(b, .inr (7, [.int 0, .int 0, .ref q1, .ref q2, .ref q3, .ref q4, .int 0, .int 0, .ref q5, .null, .null, .null, .int 0, .null, .null, .null, .null, .int 0, .int 0, .int 0, .int 0, .long 0, .null, .int 0, .int 0, .int 0, .int 0, .null, .null, .null, .null, .null, .null, .null, .long 0])), (q1, .inl (cI, 4, .inl z0)), (q2, .inl (cI, 16, .inl z0)), (q3, .inl (cI, 4, .inl z0)), (q4, .inl (cI, 4, .inl z0)), (q5, .inl (cI, 6, .inl z0))] rfl (fun H locs hP hD hS => ?_)
  refine lv_aload_n hx hb dX7_init_41 rfl (lv_at hl 0 rfl) ?_
  refine lv_bipush (v := 6) hx hb dX7_init_42 (by decide) ?_
  refine nwI F hP hD hS 4 rfl (N := 6) (by decide) (by decide) (by decide) (Nat.le_of_ble_eq_true rfl) (Nat.le_of_ble_eq_true rfl) dX7_init_44 (fun q6 H hP hD hS => ?_)
  have hP : va_P D vwCl [(b, .inr (7, [.int 0, .int 0, .ref q1, .ref q2, .ref q3, .ref q4, .int 0, .int 0, .ref q5, .null, .null, .null, .int 0, .null, .null, .null, .null, .int 0, .int 0, .int 0, .int 0, .long 0, .null, .int 0, .int 0, .int 0, .int 0, .null, .null, .null, .null, .null, .null, .null, .long 0])), (q1, .inl (cI, 4, .inl z0)), (q2, .inl (cI, 16, .inl z0)), (q3, .inl (cI, 4, .inl z0)), (q4, .inl (cI, 4, .inl z0)), (q5, .inl (cI, 6, .inl z0)), (q6, .inl (cI, 6, .inl z0))] H := hP
  have hD : va_D A [(b, .inr (7, [.int 0, .int 0, .ref q1, .ref q2, .ref q3, .ref q4, .int 0, .int 0, .ref q5, .null, .null, .null, .int 0, .null, .null, .null, .null, .int 0, .int 0, .int 0, .int 0, .long 0, .null, .int 0, .int 0, .int 0, .int 0, .null, .null, .null, .null, .null, .null, .null, .long 0])), (q1, .inl (cI, 4, .inl z0)), (q2, .inl (cI, 16, .inl z0)), (q3, .inl (cI, 4, .inl z0)), (q4, .inl (cI, 4, .inl z0)), (q5, .inl (cI, 6, .inl z0)), (q6, .inl (cI, 6, .inl z0))] := hD
  refine pfF F hnm hP hD hS in_X7_init_X7 tyX7 tyX7_ok nmX7 0 rfl rfl 9 (by decide) 10 rfl rfl rfl rfl rfl (Nat.le_of_ble_eq_true rfl) dX7_init_46 [(b, .inr (7, [.int 0, .int 0, .ref q1, .ref q2, .ref q3, .ref q4, .int 0, .int 0, .ref q5, .ref q6, .null, .null, .int 0, .null, .null, .null, .null, .int 0, .int 0, .int 0, .int 0, .long 0, .null, .int 0, .int 0, .int 0, .int 0, .null, .null, .null, .null, .null, .null, .null, .long 0])), (q1, .inl (cI, 4, .inl z0)), (q2, .inl (cI, 16, .inl z0)), (q3, .inl (cI, 4, .inl z0)), (q4, .inl (cI, 4, .inl z0)), (q5, .inl (cI, 6, .inl z0)), (q6, .inl (cI, 6, .inl z0))] rfl (fun H locs hP hD hS => ?_)
  refine lv_aload_n hx hb dX7_init_49 rfl (lv_at hl 0 rfl) ?_
  refine lv_bipush (v := 6) hx hb dX7_init_50 (by decide) ?_
  refine nwI F hP hD hS 4 rfl (N := 6) (by decide) (by decide) (by decide) (Nat.le_of_ble_eq_true rfl) (Nat.le_of_ble_eq_true rfl) dX7_init_52 (fun q7 H hP hD hS => ?_)
  have hP : va_P D vwCl [(b, .inr (7, [.int 0, .int 0, .ref q1, .ref q2, .ref q3, .ref q4, .int 0, .int 0, .ref q5, .ref q6, .null, .null, .int 0, .null, .null, .null, .null, .int 0, .int 0, .int 0, .int 0, .long 0, .null, .int 0, .int 0, .int 0, .int 0, .null, .null, .null, .null, .null, .null, .null, .long 0])), (q1, .inl (cI, 4, .inl z0)), (q2, .inl (cI, 16, .inl z0)), (q3, .inl (cI, 4, .inl z0)), (q4, .inl (cI, 4, .inl z0)), (q5, .inl (cI, 6, .inl z0)), (q6, .inl (cI, 6, .inl z0)), (q7, .inl (cI, 6, .inl z0))] H := hP
  have hD : va_D A [(b, .inr (7, [.int 0, .int 0, .ref q1, .ref q2, .ref q3, .ref q4, .int 0, .int 0, .ref q5, .ref q6, .null, .null, .int 0, .null, .null, .null, .null, .int 0, .int 0, .int 0, .int 0, .long 0, .null, .int 0, .int 0, .int 0, .int 0, .null, .null, .null, .null, .null, .null, .null, .long 0])), (q1, .inl (cI, 4, .inl z0)), (q2, .inl (cI, 16, .inl z0)), (q3, .inl (cI, 4, .inl z0)), (q4, .inl (cI, 4, .inl z0)), (q5, .inl (cI, 6, .inl z0)), (q6, .inl (cI, 6, .inl z0)), (q7, .inl (cI, 6, .inl z0))] := hD
  refine pfF F hnm hP hD hS in_X7_init_X7 tyX7 tyX7_ok nmX7 0 rfl rfl 10 (by decide) 11 rfl rfl rfl rfl rfl (Nat.le_of_ble_eq_true rfl) dX7_init_54 [(b, .inr (7, [.int 0, .int 0, .ref q1, .ref q2, .ref q3, .ref q4, .int 0, .int 0, .ref q5, .ref q6, .ref q7, .null, .int 0, .null, .null, .null, .null, .int 0, .int 0, .int 0, .int 0, .long 0, .null, .int 0, .int 0, .int 0, .int 0, .null, .null, .null, .null, .null, .null, .null, .long 0])), (q1, .inl (cI, 4, .inl z0)), (q2, .inl (cI, 16, .inl z0)), (q3, .inl (cI, 4, .inl z0)), (q4, .inl (cI, 4, .inl z0)), (q5, .inl (cI, 6, .inl z0)), (q6, .inl (cI, 6, .inl z0)), (q7, .inl (cI, 6, .inl z0))] rfl (fun H locs hP hD hS => ?_)
  refine lv_aload_n hx hb dX7_init_57 rfl (lv_at hl 0 rfl) ?_
  refine lv_bipush (v := 6) hx hb dX7_init_58 (by decide) ?_
  refine nwI F hP hD hS 4 rfl (N := 6) (by decide) (by decide) (by decide) (Nat.le_of_ble_eq_true rfl) (Nat.le_of_ble_eq_true rfl) dX7_init_60 (fun q8 H hP hD hS => ?_)
  have hP : va_P D vwCl [(b, .inr (7, [.int 0, .int 0, .ref q1, .ref q2, .ref q3, .ref q4, .int 0, .int 0, .ref q5, .ref q6, .ref q7, .null, .int 0, .null, .null, .null, .null, .int 0, .int 0, .int 0, .int 0, .long 0, .null, .int 0, .int 0, .int 0, .int 0, .null, .null, .null, .null, .null, .null, .null, .long 0])), (q1, .inl (cI, 4, .inl z0)), (q2, .inl (cI, 16, .inl z0)), (q3, .inl (cI, 4, .inl z0)), (q4, .inl (cI, 4, .inl z0)), (q5, .inl (cI, 6, .inl z0)), (q6, .inl (cI, 6, .inl z0)), (q7, .inl (cI, 6, .inl z0)), (q8, .inl (cI, 6, .inl z0))] H := hP
  have hD : va_D A [(b, .inr (7, [.int 0, .int 0, .ref q1, .ref q2, .ref q3, .ref q4, .int 0, .int 0, .ref q5, .ref q6, .ref q7, .null, .int 0, .null, .null, .null, .null, .int 0, .int 0, .int 0, .int 0, .long 0, .null, .int 0, .int 0, .int 0, .int 0, .null, .null, .null, .null, .null, .null, .null, .long 0])), (q1, .inl (cI, 4, .inl z0)), (q2, .inl (cI, 16, .inl z0)), (q3, .inl (cI, 4, .inl z0)), (q4, .inl (cI, 4, .inl z0)), (q5, .inl (cI, 6, .inl z0)), (q6, .inl (cI, 6, .inl z0)), (q7, .inl (cI, 6, .inl z0)), (q8, .inl (cI, 6, .inl z0))] := hD
  refine pfF F hnm hP hD hS in_X7_init_X7 tyX7 tyX7_ok nmX7 0 rfl rfl 11 (by decide) 12 rfl rfl rfl rfl rfl (Nat.le_of_ble_eq_true rfl) dX7_init_62 [(b, .inr (7, [.int 0, .int 0, .ref q1, .ref q2, .ref q3, .ref q4, .int 0, .int 0, .ref q5, .ref q6, .ref q7, .ref q8, .int 0, .null, .null, .null, .null, .int 0, .int 0, .int 0, .int 0, .long 0, .null, .int 0, .int 0, .int 0, .int 0, .null, .null, .null, .null, .null, .null, .null, .long 0])), (q1, .inl (cI, 4, .inl z0)), (q2, .inl (cI, 16, .inl z0)), (q3, .inl (cI, 4, .inl z0)), (q4, .inl (cI, 4, .inl z0)), (q5, .inl (cI, 6, .inl z0)), (q6, .inl (cI, 6, .inl z0)), (q7, .inl (cI, 6, .inl z0)), (q8, .inl (cI, 6, .inl z0))] rfl (fun H locs hP hD hS => ?_)
  refine lv_aload_n hx hb dX7_init_65 rfl (lv_at hl 0 rfl) ?_
  refine lv_bipush (v := 25) hx hb dX7_init_66 (by decide) ?_
  refine nwB F hP hD hS 13 rfl (N := 25) (by decide) (by decide) (by decide) (Nat.le_of_ble_eq_true rfl) (Nat.le_of_ble_eq_true rfl) dX7_init_68 (fun q9 H hP hD hS => ?_)
  have hP : va_P D vwCl [(b, .inr (7, [.int 0, .int 0, .ref q1, .ref q2, .ref q3, .ref q4, .int 0, .int 0, .ref q5, .ref q6, .ref q7, .ref q8, .int 0, .null, .null, .null, .null, .int 0, .int 0, .int 0, .int 0, .long 0, .null, .int 0, .int 0, .int 0, .int 0, .null, .null, .null, .null, .null, .null, .null, .long 0])), (q1, .inl (cI, 4, .inl z0)), (q2, .inl (cI, 16, .inl z0)), (q3, .inl (cI, 4, .inl z0)), (q4, .inl (cI, 4, .inl z0)), (q5, .inl (cI, 6, .inl z0)), (q6, .inl (cI, 6, .inl z0)), (q7, .inl (cI, 6, .inl z0)), (q8, .inl (cI, 6, .inl z0)), (q9, .inl (cB, 25, .inl z0))] H := hP
  have hD : va_D A [(b, .inr (7, [.int 0, .int 0, .ref q1, .ref q2, .ref q3, .ref q4, .int 0, .int 0, .ref q5, .ref q6, .ref q7, .ref q8, .int 0, .null, .null, .null, .null, .int 0, .int 0, .int 0, .int 0, .long 0, .null, .int 0, .int 0, .int 0, .int 0, .null, .null, .null, .null, .null, .null, .null, .long 0])), (q1, .inl (cI, 4, .inl z0)), (q2, .inl (cI, 16, .inl z0)), (q3, .inl (cI, 4, .inl z0)), (q4, .inl (cI, 4, .inl z0)), (q5, .inl (cI, 6, .inl z0)), (q6, .inl (cI, 6, .inl z0)), (q7, .inl (cI, 6, .inl z0)), (q8, .inl (cI, 6, .inl z0)), (q9, .inl (cB, 25, .inl z0))] := hD
  refine pfF F hnm hP hD hS in_X7_init_X7 tyX7 tyX7_ok nmX7 0 rfl rfl 13 (by decide) 14 rfl rfl rfl rfl rfl (Nat.le_of_ble_eq_true rfl) dX7_init_70 [(b, .inr (7, [.int 0, .int 0, .ref q1, .ref q2, .ref q3, .ref q4, .int 0, .int 0, .ref q5, .ref q6, .ref q7, .ref q8, .int 0, .ref q9, .null, .null, .null, .int 0, .int 0, .int 0, .int 0, .long 0, .null, .int 0, .int 0, .int 0, .int 0, .null, .null, .null, .null, .null, .null, .null, .long 0])), (q1, .inl (cI, 4, .inl z0)), (q2, .inl (cI, 16, .inl z0)), (q3, .inl (cI, 4, .inl z0)), (q4, .inl (cI, 4, .inl z0)), (q5, .inl (cI, 6, .inl z0)), (q6, .inl (cI, 6, .inl z0)), (q7, .inl (cI, 6, .inl z0)), (q8, .inl (cI, 6, .inl z0)), (q9, .inl (cB, 25, .inl z0))] rfl (fun H locs hP hD hS => ?_)
  refine lv_aload_n hx hb dX7_init_73 rfl (lv_at hl 0 rfl) ?_
  refine lv_bipush (v := 16) hx hb dX7_init_74 (by decide) ?_
  refine nwI F hP hD hS 4 rfl (N := 16) (by decide) (by decide) (by decide) (Nat.le_of_ble_eq_true rfl) (Nat.le_of_ble_eq_true rfl) dX7_init_76 (fun q10 H hP hD hS => ?_)
  have hP : va_P D vwCl [(b, .inr (7, [.int 0, .int 0, .ref q1, .ref q2, .ref q3, .ref q4, .int 0, .int 0, .ref q5, .ref q6, .ref q7, .ref q8, .int 0, .ref q9, .null, .null, .null, .int 0, .int 0, .int 0, .int 0, .long 0, .null, .int 0, .int 0, .int 0, .int 0, .null, .null, .null, .null, .null, .null, .null, .long 0])), (q1, .inl (cI, 4, .inl z0)), (q2, .inl (cI, 16, .inl z0)), (q3, .inl (cI, 4, .inl z0)), (q4, .inl (cI, 4, .inl z0)), (q5, .inl (cI, 6, .inl z0)), (q6, .inl (cI, 6, .inl z0)), (q7, .inl (cI, 6, .inl z0)), (q8, .inl (cI, 6, .inl z0)), (q9, .inl (cB, 25, .inl z0)), (q10, .inl (cI, 16, .inl z0))] H := hP
  have hD : va_D A [(b, .inr (7, [.int 0, .int 0, .ref q1, .ref q2, .ref q3, .ref q4, .int 0, .int 0, .ref q5, .ref q6, .ref q7, .ref q8, .int 0, .ref q9, .null, .null, .null, .int 0, .int 0, .int 0, .int 0, .long 0, .null, .int 0, .int 0, .int 0, .int 0, .null, .null, .null, .null, .null, .null, .null, .long 0])), (q1, .inl (cI, 4, .inl z0)), (q2, .inl (cI, 16, .inl z0)), (q3, .inl (cI, 4, .inl z0)), (q4, .inl (cI, 4, .inl z0)), (q5, .inl (cI, 6, .inl z0)), (q6, .inl (cI, 6, .inl z0)), (q7, .inl (cI, 6, .inl z0)), (q8, .inl (cI, 6, .inl z0)), (q9, .inl (cB, 25, .inl z0)), (q10, .inl (cI, 16, .inl z0))] := hD
  refine pfF F hnm hP hD hS in_X7_init_X7 tyX7 tyX7_ok nmX7 0 rfl rfl 14 (by decide) 15 rfl rfl rfl rfl rfl (Nat.le_of_ble_eq_true rfl) dX7_init_78 [(b, .inr (7, [.int 0, .int 0, .ref q1, .ref q2, .ref q3, .ref q4, .int 0, .int 0, .ref q5, .ref q6, .ref q7, .ref q8, .int 0, .ref q9, .ref q10, .null, .null, .int 0, .int 0, .int 0, .int 0, .long 0, .null, .int 0, .int 0, .int 0, .int 0, .null, .null, .null, .null, .null, .null, .null, .long 0])), (q1, .inl (cI, 4, .inl z0)), (q2, .inl (cI, 16, .inl z0)), (q3, .inl (cI, 4, .inl z0)), (q4, .inl (cI, 4, .inl z0)), (q5, .inl (cI, 6, .inl z0)), (q6, .inl (cI, 6, .inl z0)), (q7, .inl (cI, 6, .inl z0)), (q8, .inl (cI, 6, .inl z0)), (q9, .inl (cB, 25, .inl z0)), (q10, .inl (cI, 16, .inl z0))] rfl (fun H locs hP hD hS => ?_)
  refine lv_aload_n hx hb dX7_init_81 rfl (lv_at hl 0 rfl) ?_
  refine lv_iconst (v := 4) hx hb dX7_init_82 (by decide) ?_
  refine nwI F hP hD hS 4 rfl (N := 4) (by decide) (by decide) (by decide) (Nat.le_of_ble_eq_true rfl) (Nat.le_of_ble_eq_true rfl) dX7_init_83 (fun q11 H hP hD hS => ?_)
  have hP : va_P D vwCl [(b, .inr (7, [.int 0, .int 0, .ref q1, .ref q2, .ref q3, .ref q4, .int 0, .int 0, .ref q5, .ref q6, .ref q7, .ref q8, .int 0, .ref q9, .ref q10, .null, .null, .int 0, .int 0, .int 0, .int 0, .long 0, .null, .int 0, .int 0, .int 0, .int 0, .null, .null, .null, .null, .null, .null, .null, .long 0])), (q1, .inl (cI, 4, .inl z0)), (q2, .inl (cI, 16, .inl z0)), (q3, .inl (cI, 4, .inl z0)), (q4, .inl (cI, 4, .inl z0)), (q5, .inl (cI, 6, .inl z0)), (q6, .inl (cI, 6, .inl z0)), (q7, .inl (cI, 6, .inl z0)), (q8, .inl (cI, 6, .inl z0)), (q9, .inl (cB, 25, .inl z0)), (q10, .inl (cI, 16, .inl z0)), (q11, .inl (cI, 4, .inl z0))] H := hP
  have hD : va_D A [(b, .inr (7, [.int 0, .int 0, .ref q1, .ref q2, .ref q3, .ref q4, .int 0, .int 0, .ref q5, .ref q6, .ref q7, .ref q8, .int 0, .ref q9, .ref q10, .null, .null, .int 0, .int 0, .int 0, .int 0, .long 0, .null, .int 0, .int 0, .int 0, .int 0, .null, .null, .null, .null, .null, .null, .null, .long 0])), (q1, .inl (cI, 4, .inl z0)), (q2, .inl (cI, 16, .inl z0)), (q3, .inl (cI, 4, .inl z0)), (q4, .inl (cI, 4, .inl z0)), (q5, .inl (cI, 6, .inl z0)), (q6, .inl (cI, 6, .inl z0)), (q7, .inl (cI, 6, .inl z0)), (q8, .inl (cI, 6, .inl z0)), (q9, .inl (cB, 25, .inl z0)), (q10, .inl (cI, 16, .inl z0)), (q11, .inl (cI, 4, .inl z0))] := hD
  refine pfF F hnm hP hD hS in_X7_init_X7 tyX7 tyX7_ok nmX7 0 rfl rfl 15 (by decide) 16 rfl rfl rfl rfl rfl (Nat.le_of_ble_eq_true rfl) dX7_init_85 [(b, .inr (7, [.int 0, .int 0, .ref q1, .ref q2, .ref q3, .ref q4, .int 0, .int 0, .ref q5, .ref q6, .ref q7, .ref q8, .int 0, .ref q9, .ref q10, .ref q11, .null, .int 0, .int 0, .int 0, .int 0, .long 0, .null, .int 0, .int 0, .int 0, .int 0, .null, .null, .null, .null, .null, .null, .null, .long 0])), (q1, .inl (cI, 4, .inl z0)), (q2, .inl (cI, 16, .inl z0)), (q3, .inl (cI, 4, .inl z0)), (q4, .inl (cI, 4, .inl z0)), (q5, .inl (cI, 6, .inl z0)), (q6, .inl (cI, 6, .inl z0)), (q7, .inl (cI, 6, .inl z0)), (q8, .inl (cI, 6, .inl z0)), (q9, .inl (cB, 25, .inl z0)), (q10, .inl (cI, 16, .inl z0)), (q11, .inl (cI, 4, .inl z0))] rfl (fun H locs hP hD hS => ?_)
  refine lv_aload_n hx hb dX7_init_88 rfl (lv_at hl 0 rfl) ?_
  refine lv_sipush (v := 256) hx hb dX7_init_89 (by decide) ?_
  refine nwI F hP hD hS 4 rfl (N := 256) (by decide) (by decide) (by decide) (Nat.le_of_ble_eq_true rfl) (Nat.le_of_ble_eq_true rfl) dX7_init_92 (fun q12 H hP hD hS => ?_)
  have hP : va_P D vwCl [(b, .inr (7, [.int 0, .int 0, .ref q1, .ref q2, .ref q3, .ref q4, .int 0, .int 0, .ref q5, .ref q6, .ref q7, .ref q8, .int 0, .ref q9, .ref q10, .ref q11, .null, .int 0, .int 0, .int 0, .int 0, .long 0, .null, .int 0, .int 0, .int 0, .int 0, .null, .null, .null, .null, .null, .null, .null, .long 0])), (q1, .inl (cI, 4, .inl z0)), (q2, .inl (cI, 16, .inl z0)), (q3, .inl (cI, 4, .inl z0)), (q4, .inl (cI, 4, .inl z0)), (q5, .inl (cI, 6, .inl z0)), (q6, .inl (cI, 6, .inl z0)), (q7, .inl (cI, 6, .inl z0)), (q8, .inl (cI, 6, .inl z0)), (q9, .inl (cB, 25, .inl z0)), (q10, .inl (cI, 16, .inl z0)), (q11, .inl (cI, 4, .inl z0)), (q12, .inl (cI, 256, .inl z0))] H := hP
  have hD : va_D A [(b, .inr (7, [.int 0, .int 0, .ref q1, .ref q2, .ref q3, .ref q4, .int 0, .int 0, .ref q5, .ref q6, .ref q7, .ref q8, .int 0, .ref q9, .ref q10, .ref q11, .null, .int 0, .int 0, .int 0, .int 0, .long 0, .null, .int 0, .int 0, .int 0, .int 0, .null, .null, .null, .null, .null, .null, .null, .long 0])), (q1, .inl (cI, 4, .inl z0)), (q2, .inl (cI, 16, .inl z0)), (q3, .inl (cI, 4, .inl z0)), (q4, .inl (cI, 4, .inl z0)), (q5, .inl (cI, 6, .inl z0)), (q6, .inl (cI, 6, .inl z0)), (q7, .inl (cI, 6, .inl z0)), (q8, .inl (cI, 6, .inl z0)), (q9, .inl (cB, 25, .inl z0)), (q10, .inl (cI, 16, .inl z0)), (q11, .inl (cI, 4, .inl z0)), (q12, .inl (cI, 256, .inl z0))] := hD
  refine pfF F hnm hP hD hS in_X7_init_X7 tyX7 tyX7_ok nmX7 0 rfl rfl 16 (by decide) 17 rfl rfl rfl rfl rfl (Nat.le_of_ble_eq_true rfl) dX7_init_94 [(b, .inr (7, [.int 0, .int 0, .ref q1, .ref q2, .ref q3, .ref q4, .int 0, .int 0, .ref q5, .ref q6, .ref q7, .ref q8, .int 0, .ref q9, .ref q10, .ref q11, .ref q12, .int 0, .int 0, .int 0, .int 0, .long 0, .null, .int 0, .int 0, .int 0, .int 0, .null, .null, .null, .null, .null, .null, .null, .long 0])), (q1, .inl (cI, 4, .inl z0)), (q2, .inl (cI, 16, .inl z0)), (q3, .inl (cI, 4, .inl z0)), (q4, .inl (cI, 4, .inl z0)), (q5, .inl (cI, 6, .inl z0)), (q6, .inl (cI, 6, .inl z0)), (q7, .inl (cI, 6, .inl z0)), (q8, .inl (cI, 6, .inl z0)), (q9, .inl (cB, 25, .inl z0)), (q10, .inl (cI, 16, .inl z0)), (q11, .inl (cI, 4, .inl z0)), (q12, .inl (cI, 256, .inl z0))] rfl (fun H locs hP hD hS => ?_)
  refine lv_aload_n hx hb dX7_init_97 rfl (lv_at hl 0 rfl) ?_
  refine lv_iconst (v := 4) hx hb dX7_init_98 (by decide) ?_
  refine nwI F hP hD hS 4 rfl (N := 4) (by decide) (by decide) (by decide) (Nat.le_of_ble_eq_true rfl) (Nat.le_of_ble_eq_true rfl) dX7_init_99 (fun q13 H hP hD hS => ?_)
  have hP : va_P D vwCl [(b, .inr (7, [.int 0, .int 0, .ref q1, .ref q2, .ref q3, .ref q4, .int 0, .int 0, .ref q5, .ref q6, .ref q7, .ref q8, .int 0, .ref q9, .ref q10, .ref q11, .ref q12, .int 0, .int 0, .int 0, .int 0, .long 0, .null, .int 0, .int 0, .int 0, .int 0, .null, .null, .null, .null, .null, .null, .null, .long 0])), (q1, .inl (cI, 4, .inl z0)), (q2, .inl (cI, 16, .inl z0)), (q3, .inl (cI, 4, .inl z0)), (q4, .inl (cI, 4, .inl z0)), (q5, .inl (cI, 6, .inl z0)), (q6, .inl (cI, 6, .inl z0)), (q7, .inl (cI, 6, .inl z0)), (q8, .inl (cI, 6, .inl z0)), (q9, .inl (cB, 25, .inl z0)), (q10, .inl (cI, 16, .inl z0)), (q11, .inl (cI, 4, .inl z0)), (q12, .inl (cI, 256, .inl z0)), (q13, .inl (cI, 4, .inl z0))] H := hP
  have hD : va_D A [(b, .inr (7, [.int 0, .int 0, .ref q1, .ref q2, .ref q3, .ref q4, .int 0, .int 0, .ref q5, .ref q6, .ref q7, .ref q8, .int 0, .ref q9, .ref q10, .ref q11, .ref q12, .int 0, .int 0, .int 0, .int 0, .long 0, .null, .int 0, .int 0, .int 0, .int 0, .null, .null, .null, .null, .null, .null, .null, .long 0])), (q1, .inl (cI, 4, .inl z0)), (q2, .inl (cI, 16, .inl z0)), (q3, .inl (cI, 4, .inl z0)), (q4, .inl (cI, 4, .inl z0)), (q5, .inl (cI, 6, .inl z0)), (q6, .inl (cI, 6, .inl z0)), (q7, .inl (cI, 6, .inl z0)), (q8, .inl (cI, 6, .inl z0)), (q9, .inl (cB, 25, .inl z0)), (q10, .inl (cI, 16, .inl z0)), (q11, .inl (cI, 4, .inl z0)), (q12, .inl (cI, 256, .inl z0)), (q13, .inl (cI, 4, .inl z0))] := hD
  refine pfF F hnm hP hD hS in_X7_init_X7 tyX7 tyX7_ok nmX7 0 rfl rfl 22 (by decide) 18 rfl rfl rfl rfl rfl (Nat.le_of_ble_eq_true rfl) dX7_init_101 [(b, .inr (7, [.int 0, .int 0, .ref q1, .ref q2, .ref q3, .ref q4, .int 0, .int 0, .ref q5, .ref q6, .ref q7, .ref q8, .int 0, .ref q9, .ref q10, .ref q11, .ref q12, .int 0, .int 0, .int 0, .int 0, .long 0, .ref q13, .int 0, .int 0, .int 0, .int 0, .null, .null, .null, .null, .null, .null, .null, .long 0])), (q1, .inl (cI, 4, .inl z0)), (q2, .inl (cI, 16, .inl z0)), (q3, .inl (cI, 4, .inl z0)), (q4, .inl (cI, 4, .inl z0)), (q5, .inl (cI, 6, .inl z0)), (q6, .inl (cI, 6, .inl z0)), (q7, .inl (cI, 6, .inl z0)), (q8, .inl (cI, 6, .inl z0)), (q9, .inl (cB, 25, .inl z0)), (q10, .inl (cI, 16, .inl z0)), (q11, .inl (cI, 4, .inl z0)), (q12, .inl (cI, 256, .inl z0)), (q13, .inl (cI, 4, .inl z0))] rfl (fun H locs hP hD hS => ?_)
  refine lv_aload_n hx hb dX7_init_104 rfl (lv_at hl 0 rfl) ?_
  refine lv_bipush (v := 16) hx hb dX7_init_105 (by decide) ?_
  refine nwI F hP hD hS 4 rfl (N := 16) (by decide) (by decide) (by decide) (Nat.le_of_ble_eq_true rfl) (Nat.le_of_ble_eq_true rfl) dX7_init_107 (fun q14 H hP hD hS => ?_)
  have hP : va_P D vwCl [(b, .inr (7, [.int 0, .int 0, .ref q1, .ref q2, .ref q3, .ref q4, .int 0, .int 0, .ref q5, .ref q6, .ref q7, .ref q8, .int 0, .ref q9, .ref q10, .ref q11, .ref q12, .int 0, .int 0, .int 0, .int 0, .long 0, .ref q13, .int 0, .int 0, .int 0, .int 0, .null, .null, .null, .null, .null, .null, .null, .long 0])), (q1, .inl (cI, 4, .inl z0)), (q2, .inl (cI, 16, .inl z0)), (q3, .inl (cI, 4, .inl z0)), (q4, .inl (cI, 4, .inl z0)), (q5, .inl (cI, 6, .inl z0)), (q6, .inl (cI, 6, .inl z0)), (q7, .inl (cI, 6, .inl z0)), (q8, .inl (cI, 6, .inl z0)), (q9, .inl (cB, 25, .inl z0)), (q10, .inl (cI, 16, .inl z0)), (q11, .inl (cI, 4, .inl z0)), (q12, .inl (cI, 256, .inl z0)), (q13, .inl (cI, 4, .inl z0)), (q14, .inl (cI, 16, .inl z0))] H := hP
  have hD : va_D A [(b, .inr (7, [.int 0, .int 0, .ref q1, .ref q2, .ref q3, .ref q4, .int 0, .int 0, .ref q5, .ref q6, .ref q7, .ref q8, .int 0, .ref q9, .ref q10, .ref q11, .ref q12, .int 0, .int 0, .int 0, .int 0, .long 0, .ref q13, .int 0, .int 0, .int 0, .int 0, .null, .null, .null, .null, .null, .null, .null, .long 0])), (q1, .inl (cI, 4, .inl z0)), (q2, .inl (cI, 16, .inl z0)), (q3, .inl (cI, 4, .inl z0)), (q4, .inl (cI, 4, .inl z0)), (q5, .inl (cI, 6, .inl z0)), (q6, .inl (cI, 6, .inl z0)), (q7, .inl (cI, 6, .inl z0)), (q8, .inl (cI, 6, .inl z0)), (q9, .inl (cB, 25, .inl z0)), (q10, .inl (cI, 16, .inl z0)), (q11, .inl (cI, 4, .inl z0)), (q12, .inl (cI, 256, .inl z0)), (q13, .inl (cI, 4, .inl z0)), (q14, .inl (cI, 16, .inl z0))] := hD
  refine pfF F hnm hP hD hS in_X7_init_X7 tyX7 tyX7_ok nmX7 0 rfl rfl 27 (by decide) 19 rfl rfl rfl rfl rfl (Nat.le_of_ble_eq_true rfl) dX7_init_109 [(b, .inr (7, [.int 0, .int 0, .ref q1, .ref q2, .ref q3, .ref q4, .int 0, .int 0, .ref q5, .ref q6, .ref q7, .ref q8, .int 0, .ref q9, .ref q10, .ref q11, .ref q12, .int 0, .int 0, .int 0, .int 0, .long 0, .ref q13, .int 0, .int 0, .int 0, .int 0, .ref q14, .null, .null, .null, .null, .null, .null, .long 0])), (q1, .inl (cI, 4, .inl z0)), (q2, .inl (cI, 16, .inl z0)), (q3, .inl (cI, 4, .inl z0)), (q4, .inl (cI, 4, .inl z0)), (q5, .inl (cI, 6, .inl z0)), (q6, .inl (cI, 6, .inl z0)), (q7, .inl (cI, 6, .inl z0)), (q8, .inl (cI, 6, .inl z0)), (q9, .inl (cB, 25, .inl z0)), (q10, .inl (cI, 16, .inl z0)), (q11, .inl (cI, 4, .inl z0)), (q12, .inl (cI, 256, .inl z0)), (q13, .inl (cI, 4, .inl z0)), (q14, .inl (cI, 16, .inl z0))] rfl (fun H locs hP hD hS => ?_)
  refine lv_aload_n hx hb dX7_init_112 rfl (lv_at hl 0 rfl) ?_
  refine lv_iconst (v := 4) hx hb dX7_init_113 (by decide) ?_
  refine nwI F hP hD hS 4 rfl (N := 4) (by decide) (by decide) (by decide) (Nat.le_of_ble_eq_true rfl) (Nat.le_of_ble_eq_true rfl) dX7_init_114 (fun q15 H hP hD hS => ?_)
  have hP : va_P D vwCl [(b, .inr (7, [.int 0, .int 0, .ref q1, .ref q2, .ref q3, .ref q4, .int 0, .int 0, .ref q5, .ref q6, .ref q7, .ref q8, .int 0, .ref q9, .ref q10, .ref q11, .ref q12, .int 0, .int 0, .int 0, .int 0, .long 0, .ref q13, .int 0, .int 0, .int 0, .int 0, .ref q14, .null, .null, .null, .null, .null, .null, .long 0])), (q1, .inl (cI, 4, .inl z0)), (q2, .inl (cI, 16, .inl z0)), (q3, .inl (cI, 4, .inl z0)), (q4, .inl (cI, 4, .inl z0)), (q5, .inl (cI, 6, .inl z0)), (q6, .inl (cI, 6, .inl z0)), (q7, .inl (cI, 6, .inl z0)), (q8, .inl (cI, 6, .inl z0)), (q9, .inl (cB, 25, .inl z0)), (q10, .inl (cI, 16, .inl z0)), (q11, .inl (cI, 4, .inl z0)), (q12, .inl (cI, 256, .inl z0)), (q13, .inl (cI, 4, .inl z0)), (q14, .inl (cI, 16, .inl z0)), (q15, .inl (cI, 4, .inl z0))] H := hP
  have hD : va_D A [(b, .inr (7, [.int 0, .int 0, .ref q1, .ref q2, .ref q3, .ref q4, .int 0, .int 0, .ref q5, .ref q6, .ref q7, .ref q8, .int 0, .ref q9, .ref q10, .ref q11, .ref q12, .int 0, .int 0, .int 0, .int 0, .long 0, .ref q13, .int 0, .int 0, .int 0, .int 0, .ref q14, .null, .null, .null, .null, .null, .null, .long 0])), (q1, .inl (cI, 4, .inl z0)), (q2, .inl (cI, 16, .inl z0)), (q3, .inl (cI, 4, .inl z0)), (q4, .inl (cI, 4, .inl z0)), (q5, .inl (cI, 6, .inl z0)), (q6, .inl (cI, 6, .inl z0)), (q7, .inl (cI, 6, .inl z0)), (q8, .inl (cI, 6, .inl z0)), (q9, .inl (cB, 25, .inl z0)), (q10, .inl (cI, 16, .inl z0)), (q11, .inl (cI, 4, .inl z0)), (q12, .inl (cI, 256, .inl z0)), (q13, .inl (cI, 4, .inl z0)), (q14, .inl (cI, 16, .inl z0)), (q15, .inl (cI, 4, .inl z0))] := hD
  refine pfF F hnm hP hD hS in_X7_init_X7 tyX7 tyX7_ok nmX7 0 rfl rfl 28 (by decide) 20 rfl rfl rfl rfl rfl (Nat.le_of_ble_eq_true rfl) dX7_init_116 [(b, .inr (7, [.int 0, .int 0, .ref q1, .ref q2, .ref q3, .ref q4, .int 0, .int 0, .ref q5, .ref q6, .ref q7, .ref q8, .int 0, .ref q9, .ref q10, .ref q11, .ref q12, .int 0, .int 0, .int 0, .int 0, .long 0, .ref q13, .int 0, .int 0, .int 0, .int 0, .ref q14, .ref q15, .null, .null, .null, .null, .null, .long 0])), (q1, .inl (cI, 4, .inl z0)), (q2, .inl (cI, 16, .inl z0)), (q3, .inl (cI, 4, .inl z0)), (q4, .inl (cI, 4, .inl z0)), (q5, .inl (cI, 6, .inl z0)), (q6, .inl (cI, 6, .inl z0)), (q7, .inl (cI, 6, .inl z0)), (q8, .inl (cI, 6, .inl z0)), (q9, .inl (cB, 25, .inl z0)), (q10, .inl (cI, 16, .inl z0)), (q11, .inl (cI, 4, .inl z0)), (q12, .inl (cI, 256, .inl z0)), (q13, .inl (cI, 4, .inl z0)), (q14, .inl (cI, 16, .inl z0)), (q15, .inl (cI, 4, .inl z0))] rfl (fun H locs hP hD hS => ?_)
  refine lv_aload_n hx hb dX7_init_119 rfl (lv_at hl 0 rfl) ?_
  refine lv_iconst (v := 4) hx hb dX7_init_120 (by decide) ?_
  refine nwI F hP hD hS 4 rfl (N := 4) (by decide) (by decide) (by decide) (Nat.le_of_ble_eq_true rfl) (Nat.le_of_ble_eq_true rfl) dX7_init_121 (fun q16 H hP hD hS => ?_)
  have hP : va_P D vwCl [(b, .inr (7, [.int 0, .int 0, .ref q1, .ref q2, .ref q3, .ref q4, .int 0, .int 0, .ref q5, .ref q6, .ref q7, .ref q8, .int 0, .ref q9, .ref q10, .ref q11, .ref q12, .int 0, .int 0, .int 0, .int 0, .long 0, .ref q13, .int 0, .int 0, .int 0, .int 0, .ref q14, .ref q15, .null, .null, .null, .null, .null, .long 0])), (q1, .inl (cI, 4, .inl z0)), (q2, .inl (cI, 16, .inl z0)), (q3, .inl (cI, 4, .inl z0)), (q4, .inl (cI, 4, .inl z0)), (q5, .inl (cI, 6, .inl z0)), (q6, .inl (cI, 6, .inl z0)), (q7, .inl (cI, 6, .inl z0)), (q8, .inl (cI, 6, .inl z0)), (q9, .inl (cB, 25, .inl z0)), (q10, .inl (cI, 16, .inl z0)), (q11, .inl (cI, 4, .inl z0)), (q12, .inl (cI, 256, .inl z0)), (q13, .inl (cI, 4, .inl z0)), (q14, .inl (cI, 16, .inl z0)), (q15, .inl (cI, 4, .inl z0)), (q16, .inl (cI, 4, .inl z0))] H := hP
  have hD : va_D A [(b, .inr (7, [.int 0, .int 0, .ref q1, .ref q2, .ref q3, .ref q4, .int 0, .int 0, .ref q5, .ref q6, .ref q7, .ref q8, .int 0, .ref q9, .ref q10, .ref q11, .ref q12, .int 0, .int 0, .int 0, .int 0, .long 0, .ref q13, .int 0, .int 0, .int 0, .int 0, .ref q14, .ref q15, .null, .null, .null, .null, .null, .long 0])), (q1, .inl (cI, 4, .inl z0)), (q2, .inl (cI, 16, .inl z0)), (q3, .inl (cI, 4, .inl z0)), (q4, .inl (cI, 4, .inl z0)), (q5, .inl (cI, 6, .inl z0)), (q6, .inl (cI, 6, .inl z0)), (q7, .inl (cI, 6, .inl z0)), (q8, .inl (cI, 6, .inl z0)), (q9, .inl (cB, 25, .inl z0)), (q10, .inl (cI, 16, .inl z0)), (q11, .inl (cI, 4, .inl z0)), (q12, .inl (cI, 256, .inl z0)), (q13, .inl (cI, 4, .inl z0)), (q14, .inl (cI, 16, .inl z0)), (q15, .inl (cI, 4, .inl z0)), (q16, .inl (cI, 4, .inl z0))] := hD
  refine pfF F hnm hP hD hS in_X7_init_X7 tyX7 tyX7_ok nmX7 0 rfl rfl 29 (by decide) 21 rfl rfl rfl rfl rfl (Nat.le_of_ble_eq_true rfl) dX7_init_123 [(b, .inr (7, [.int 0, .int 0, .ref q1, .ref q2, .ref q3, .ref q4, .int 0, .int 0, .ref q5, .ref q6, .ref q7, .ref q8, .int 0, .ref q9, .ref q10, .ref q11, .ref q12, .int 0, .int 0, .int 0, .int 0, .long 0, .ref q13, .int 0, .int 0, .int 0, .int 0, .ref q14, .ref q15, .ref q16, .null, .null, .null, .null, .long 0])), (q1, .inl (cI, 4, .inl z0)), (q2, .inl (cI, 16, .inl z0)), (q3, .inl (cI, 4, .inl z0)), (q4, .inl (cI, 4, .inl z0)), (q5, .inl (cI, 6, .inl z0)), (q6, .inl (cI, 6, .inl z0)), (q7, .inl (cI, 6, .inl z0)), (q8, .inl (cI, 6, .inl z0)), (q9, .inl (cB, 25, .inl z0)), (q10, .inl (cI, 16, .inl z0)), (q11, .inl (cI, 4, .inl z0)), (q12, .inl (cI, 256, .inl z0)), (q13, .inl (cI, 4, .inl z0)), (q14, .inl (cI, 16, .inl z0)), (q15, .inl (cI, 4, .inl z0)), (q16, .inl (cI, 4, .inl z0))] rfl (fun H locs hP hD hS => ?_)
  refine lv_aload_n hx hb dX7_init_126 rfl (lv_at hl 0 rfl) ?_
  refine lv_bipush (v := 6) hx hb dX7_init_127 (by decide) ?_
  refine nwI F hP hD hS 4 rfl (N := 6) (by decide) (by decide) (by decide) (Nat.le_of_ble_eq_true rfl) (Nat.le_of_ble_eq_true rfl) dX7_init_129 (fun q17 H hP hD hS => ?_)
  have hP : va_P D vwCl [(b, .inr (7, [.int 0, .int 0, .ref q1, .ref q2, .ref q3, .ref q4, .int 0, .int 0, .ref q5, .ref q6, .ref q7, .ref q8, .int 0, .ref q9, .ref q10, .ref q11, .ref q12, .int 0, .int 0, .int 0, .int 0, .long 0, .ref q13, .int 0, .int 0, .int 0, .int 0, .ref q14, .ref q15, .ref q16, .null, .null, .null, .null, .long 0])), (q1, .inl (cI, 4, .inl z0)), (q2, .inl (cI, 16, .inl z0)), (q3, .inl (cI, 4, .inl z0)), (q4, .inl (cI, 4, .inl z0)), (q5, .inl (cI, 6, .inl z0)), (q6, .inl (cI, 6, .inl z0)), (q7, .inl (cI, 6, .inl z0)), (q8, .inl (cI, 6, .inl z0)), (q9, .inl (cB, 25, .inl z0)), (q10, .inl (cI, 16, .inl z0)), (q11, .inl (cI, 4, .inl z0)), (q12, .inl (cI, 256, .inl z0)), (q13, .inl (cI, 4, .inl z0)), (q14, .inl (cI, 16, .inl z0)), (q15, .inl (cI, 4, .inl z0)), (q16, .inl (cI, 4, .inl z0)), (q17, .inl (cI, 6, .inl z0))] H := hP
  have hD : va_D A [(b, .inr (7, [.int 0, .int 0, .ref q1, .ref q2, .ref q3, .ref q4, .int 0, .int 0, .ref q5, .ref q6, .ref q7, .ref q8, .int 0, .ref q9, .ref q10, .ref q11, .ref q12, .int 0, .int 0, .int 0, .int 0, .long 0, .ref q13, .int 0, .int 0, .int 0, .int 0, .ref q14, .ref q15, .ref q16, .null, .null, .null, .null, .long 0])), (q1, .inl (cI, 4, .inl z0)), (q2, .inl (cI, 16, .inl z0)), (q3, .inl (cI, 4, .inl z0)), (q4, .inl (cI, 4, .inl z0)), (q5, .inl (cI, 6, .inl z0)), (q6, .inl (cI, 6, .inl z0)), (q7, .inl (cI, 6, .inl z0)), (q8, .inl (cI, 6, .inl z0)), (q9, .inl (cB, 25, .inl z0)), (q10, .inl (cI, 16, .inl z0)), (q11, .inl (cI, 4, .inl z0)), (q12, .inl (cI, 256, .inl z0)), (q13, .inl (cI, 4, .inl z0)), (q14, .inl (cI, 16, .inl z0)), (q15, .inl (cI, 4, .inl z0)), (q16, .inl (cI, 4, .inl z0)), (q17, .inl (cI, 6, .inl z0))] := hD
  refine pfF F hnm hP hD hS in_X7_init_X7 tyX7 tyX7_ok nmX7 0 rfl rfl 30 (by decide) 22 rfl rfl rfl rfl rfl (Nat.le_of_ble_eq_true rfl) dX7_init_131 [(b, .inr (7, [.int 0, .int 0, .ref q1, .ref q2, .ref q3, .ref q4, .int 0, .int 0, .ref q5, .ref q6, .ref q7, .ref q8, .int 0, .ref q9, .ref q10, .ref q11, .ref q12, .int 0, .int 0, .int 0, .int 0, .long 0, .ref q13, .int 0, .int 0, .int 0, .int 0, .ref q14, .ref q15, .ref q16, .ref q17, .null, .null, .null, .long 0])), (q1, .inl (cI, 4, .inl z0)), (q2, .inl (cI, 16, .inl z0)), (q3, .inl (cI, 4, .inl z0)), (q4, .inl (cI, 4, .inl z0)), (q5, .inl (cI, 6, .inl z0)), (q6, .inl (cI, 6, .inl z0)), (q7, .inl (cI, 6, .inl z0)), (q8, .inl (cI, 6, .inl z0)), (q9, .inl (cB, 25, .inl z0)), (q10, .inl (cI, 16, .inl z0)), (q11, .inl (cI, 4, .inl z0)), (q12, .inl (cI, 256, .inl z0)), (q13, .inl (cI, 4, .inl z0)), (q14, .inl (cI, 16, .inl z0)), (q15, .inl (cI, 4, .inl z0)), (q16, .inl (cI, 4, .inl z0)), (q17, .inl (cI, 6, .inl z0))] rfl (fun H locs hP hD hS => ?_)
  refine lv_aload_n hx hb dX7_init_134 rfl (lv_at hl 0 rfl) ?_
  refine lv_bipush (v := 6) hx hb dX7_init_135 (by decide) ?_
  refine nwI F hP hD hS 4 rfl (N := 6) (by decide) (by decide) (by decide) (Nat.le_of_ble_eq_true rfl) (Nat.le_of_ble_eq_true rfl) dX7_init_137 (fun q18 H hP hD hS => ?_)
  have hP : va_P D vwCl [(b, .inr (7, [.int 0, .int 0, .ref q1, .ref q2, .ref q3, .ref q4, .int 0, .int 0, .ref q5, .ref q6, .ref q7, .ref q8, .int 0, .ref q9, .ref q10, .ref q11, .ref q12, .int 0, .int 0, .int 0, .int 0, .long 0, .ref q13, .int 0, .int 0, .int 0, .int 0, .ref q14, .ref q15, .ref q16, .ref q17, .null, .null, .null, .long 0])), (q1, .inl (cI, 4, .inl z0)), (q2, .inl (cI, 16, .inl z0)), (q3, .inl (cI, 4, .inl z0)), (q4, .inl (cI, 4, .inl z0)), (q5, .inl (cI, 6, .inl z0)), (q6, .inl (cI, 6, .inl z0)), (q7, .inl (cI, 6, .inl z0)), (q8, .inl (cI, 6, .inl z0)), (q9, .inl (cB, 25, .inl z0)), (q10, .inl (cI, 16, .inl z0)), (q11, .inl (cI, 4, .inl z0)), (q12, .inl (cI, 256, .inl z0)), (q13, .inl (cI, 4, .inl z0)), (q14, .inl (cI, 16, .inl z0)), (q15, .inl (cI, 4, .inl z0)), (q16, .inl (cI, 4, .inl z0)), (q17, .inl (cI, 6, .inl z0)), (q18, .inl (cI, 6, .inl z0))] H := hP
  have hD : va_D A [(b, .inr (7, [.int 0, .int 0, .ref q1, .ref q2, .ref q3, .ref q4, .int 0, .int 0, .ref q5, .ref q6, .ref q7, .ref q8, .int 0, .ref q9, .ref q10, .ref q11, .ref q12, .int 0, .int 0, .int 0, .int 0, .long 0, .ref q13, .int 0, .int 0, .int 0, .int 0, .ref q14, .ref q15, .ref q16, .ref q17, .null, .null, .null, .long 0])), (q1, .inl (cI, 4, .inl z0)), (q2, .inl (cI, 16, .inl z0)), (q3, .inl (cI, 4, .inl z0)), (q4, .inl (cI, 4, .inl z0)), (q5, .inl (cI, 6, .inl z0)), (q6, .inl (cI, 6, .inl z0)), (q7, .inl (cI, 6, .inl z0)), (q8, .inl (cI, 6, .inl z0)), (q9, .inl (cB, 25, .inl z0)), (q10, .inl (cI, 16, .inl z0)), (q11, .inl (cI, 4, .inl z0)), (q12, .inl (cI, 256, .inl z0)), (q13, .inl (cI, 4, .inl z0)), (q14, .inl (cI, 16, .inl z0)), (q15, .inl (cI, 4, .inl z0)), (q16, .inl (cI, 4, .inl z0)), (q17, .inl (cI, 6, .inl z0)), (q18, .inl (cI, 6, .inl z0))] := hD
  refine pfF F hnm hP hD hS in_X7_init_X7 tyX7 tyX7_ok nmX7 0 rfl rfl 31 (by decide) 23 rfl rfl rfl rfl rfl (Nat.le_of_ble_eq_true rfl) dX7_init_139 [(b, .inr (7, [.int 0, .int 0, .ref q1, .ref q2, .ref q3, .ref q4, .int 0, .int 0, .ref q5, .ref q6, .ref q7, .ref q8, .int 0, .ref q9, .ref q10, .ref q11, .ref q12, .int 0, .int 0, .int 0, .int 0, .long 0, .ref q13, .int 0, .int 0, .int 0, .int 0, .ref q14, .ref q15, .ref q16, .ref q17, .ref q18, .null, .null, .long 0])), (q1, .inl (cI, 4, .inl z0)), (q2, .inl (cI, 16, .inl z0)), (q3, .inl (cI, 4, .inl z0)), (q4, .inl (cI, 4, .inl z0)), (q5, .inl (cI, 6, .inl z0)), (q6, .inl (cI, 6, .inl z0)), (q7, .inl (cI, 6, .inl z0)), (q8, .inl (cI, 6, .inl z0)), (q9, .inl (cB, 25, .inl z0)), (q10, .inl (cI, 16, .inl z0)), (q11, .inl (cI, 4, .inl z0)), (q12, .inl (cI, 256, .inl z0)), (q13, .inl (cI, 4, .inl z0)), (q14, .inl (cI, 16, .inl z0)), (q15, .inl (cI, 4, .inl z0)), (q16, .inl (cI, 4, .inl z0)), (q17, .inl (cI, 6, .inl z0)), (q18, .inl (cI, 6, .inl z0))] rfl (fun H locs hP hD hS => ?_)
  refine lv_aload_n hx hb dX7_init_142 rfl (lv_at hl 0 rfl) ?_
  refine lv_bipush (v := 6) hx hb dX7_init_143 (by decide) ?_
  refine nwI F hP hD hS 4 rfl (N := 6) (by decide) (by decide) (by decide) (Nat.le_of_ble_eq_true rfl) (Nat.le_of_ble_eq_true rfl) dX7_init_145 (fun q19 H hP hD hS => ?_)
  have hP : va_P D vwCl [(b, .inr (7, [.int 0, .int 0, .ref q1, .ref q2, .ref q3, .ref q4, .int 0, .int 0, .ref q5, .ref q6, .ref q7, .ref q8, .int 0, .ref q9, .ref q10, .ref q11, .ref q12, .int 0, .int 0, .int 0, .int 0, .long 0, .ref q13, .int 0, .int 0, .int 0, .int 0, .ref q14, .ref q15, .ref q16, .ref q17, .ref q18, .null, .null, .long 0])), (q1, .inl (cI, 4, .inl z0)), (q2, .inl (cI, 16, .inl z0)), (q3, .inl (cI, 4, .inl z0)), (q4, .inl (cI, 4, .inl z0)), (q5, .inl (cI, 6, .inl z0)), (q6, .inl (cI, 6, .inl z0)), (q7, .inl (cI, 6, .inl z0)), (q8, .inl (cI, 6, .inl z0)), (q9, .inl (cB, 25, .inl z0)), (q10, .inl (cI, 16, .inl z0)), (q11, .inl (cI, 4, .inl z0)), (q12, .inl (cI, 256, .inl z0)), (q13, .inl (cI, 4, .inl z0)), (q14, .inl (cI, 16, .inl z0)), (q15, .inl (cI, 4, .inl z0)), (q16, .inl (cI, 4, .inl z0)), (q17, .inl (cI, 6, .inl z0)), (q18, .inl (cI, 6, .inl z0)), (q19, .inl (cI, 6, .inl z0))] H := hP
  have hD : va_D A [(b, .inr (7, [.int 0, .int 0, .ref q1, .ref q2, .ref q3, .ref q4, .int 0, .int 0, .ref q5, .ref q6, .ref q7, .ref q8, .int 0, .ref q9, .ref q10, .ref q11, .ref q12, .int 0, .int 0, .int 0, .int 0, .long 0, .ref q13, .int 0, .int 0, .int 0, .int 0, .ref q14, .ref q15, .ref q16, .ref q17, .ref q18, .null, .null, .long 0])), (q1, .inl (cI, 4, .inl z0)), (q2, .inl (cI, 16, .inl z0)), (q3, .inl (cI, 4, .inl z0)), (q4, .inl (cI, 4, .inl z0)), (q5, .inl (cI, 6, .inl z0)), (q6, .inl (cI, 6, .inl z0)), (q7, .inl (cI, 6, .inl z0)), (q8, .inl (cI, 6, .inl z0)), (q9, .inl (cB, 25, .inl z0)), (q10, .inl (cI, 16, .inl z0)), (q11, .inl (cI, 4, .inl z0)), (q12, .inl (cI, 256, .inl z0)), (q13, .inl (cI, 4, .inl z0)), (q14, .inl (cI, 16, .inl z0)), (q15, .inl (cI, 4, .inl z0)), (q16, .inl (cI, 4, .inl z0)), (q17, .inl (cI, 6, .inl z0)), (q18, .inl (cI, 6, .inl z0)), (q19, .inl (cI, 6, .inl z0))] := hD
  refine pfF F hnm hP hD hS in_X7_init_X7 tyX7 tyX7_ok nmX7 0 rfl rfl 32 (by decide) 24 rfl rfl rfl rfl rfl (Nat.le_of_ble_eq_true rfl) dX7_init_147 [(b, .inr (7, [.int 0, .int 0, .ref q1, .ref q2, .ref q3, .ref q4, .int 0, .int 0, .ref q5, .ref q6, .ref q7, .ref q8, .int 0, .ref q9, .ref q10, .ref q11, .ref q12, .int 0, .int 0, .int 0, .int 0, .long 0, .ref q13, .int 0, .int 0, .int 0, .int 0, .ref q14, .ref q15, .ref q16, .ref q17, .ref q18, .ref q19, .null, .long 0])), (q1, .inl (cI, 4, .inl z0)), (q2, .inl (cI, 16, .inl z0)), (q3, .inl (cI, 4, .inl z0)), (q4, .inl (cI, 4, .inl z0)), (q5, .inl (cI, 6, .inl z0)), (q6, .inl (cI, 6, .inl z0)), (q7, .inl (cI, 6, .inl z0)), (q8, .inl (cI, 6, .inl z0)), (q9, .inl (cB, 25, .inl z0)), (q10, .inl (cI, 16, .inl z0)), (q11, .inl (cI, 4, .inl z0)), (q12, .inl (cI, 256, .inl z0)), (q13, .inl (cI, 4, .inl z0)), (q14, .inl (cI, 16, .inl z0)), (q15, .inl (cI, 4, .inl z0)), (q16, .inl (cI, 4, .inl z0)), (q17, .inl (cI, 6, .inl z0)), (q18, .inl (cI, 6, .inl z0)), (q19, .inl (cI, 6, .inl z0))] rfl (fun H locs hP hD hS => ?_)
  refine lv_aload_n hx hb dX7_init_150 rfl (lv_at hl 0 rfl) ?_
  refine lv_bipush (v := 6) hx hb dX7_init_151 (by decide) ?_
  refine nwI F hP hD hS 4 rfl (N := 6) (by decide) (by decide) (by decide) (Nat.le_of_ble_eq_true rfl) (Nat.le_of_ble_eq_true rfl) dX7_init_153 (fun q20 H hP hD hS => ?_)
  have hP : va_P D vwCl [(b, .inr (7, [.int 0, .int 0, .ref q1, .ref q2, .ref q3, .ref q4, .int 0, .int 0, .ref q5, .ref q6, .ref q7, .ref q8, .int 0, .ref q9, .ref q10, .ref q11, .ref q12, .int 0, .int 0, .int 0, .int 0, .long 0, .ref q13, .int 0, .int 0, .int 0, .int 0, .ref q14, .ref q15, .ref q16, .ref q17, .ref q18, .ref q19, .null, .long 0])), (q1, .inl (cI, 4, .inl z0)), (q2, .inl (cI, 16, .inl z0)), (q3, .inl (cI, 4, .inl z0)), (q4, .inl (cI, 4, .inl z0)), (q5, .inl (cI, 6, .inl z0)), (q6, .inl (cI, 6, .inl z0)), (q7, .inl (cI, 6, .inl z0)), (q8, .inl (cI, 6, .inl z0)), (q9, .inl (cB, 25, .inl z0)), (q10, .inl (cI, 16, .inl z0)), (q11, .inl (cI, 4, .inl z0)), (q12, .inl (cI, 256, .inl z0)), (q13, .inl (cI, 4, .inl z0)), (q14, .inl (cI, 16, .inl z0)), (q15, .inl (cI, 4, .inl z0)), (q16, .inl (cI, 4, .inl z0)), (q17, .inl (cI, 6, .inl z0)), (q18, .inl (cI, 6, .inl z0)), (q19, .inl (cI, 6, .inl z0)), (q20, .inl (cI, 6, .inl z0))] H := hP
  have hD : va_D A [(b, .inr (7, [.int 0, .int 0, .ref q1, .ref q2, .ref q3, .ref q4, .int 0, .int 0, .ref q5, .ref q6, .ref q7, .ref q8, .int 0, .ref q9, .ref q10, .ref q11, .ref q12, .int 0, .int 0, .int 0, .int 0, .long 0, .ref q13, .int 0, .int 0, .int 0, .int 0, .ref q14, .ref q15, .ref q16, .ref q17, .ref q18, .ref q19, .null, .long 0])), (q1, .inl (cI, 4, .inl z0)), (q2, .inl (cI, 16, .inl z0)), (q3, .inl (cI, 4, .inl z0)), (q4, .inl (cI, 4, .inl z0)), (q5, .inl (cI, 6, .inl z0)), (q6, .inl (cI, 6, .inl z0)), (q7, .inl (cI, 6, .inl z0)), (q8, .inl (cI, 6, .inl z0)), (q9, .inl (cB, 25, .inl z0)), (q10, .inl (cI, 16, .inl z0)), (q11, .inl (cI, 4, .inl z0)), (q12, .inl (cI, 256, .inl z0)), (q13, .inl (cI, 4, .inl z0)), (q14, .inl (cI, 16, .inl z0)), (q15, .inl (cI, 4, .inl z0)), (q16, .inl (cI, 4, .inl z0)), (q17, .inl (cI, 6, .inl z0)), (q18, .inl (cI, 6, .inl z0)), (q19, .inl (cI, 6, .inl z0)), (q20, .inl (cI, 6, .inl z0))] := hD
  refine pfF F hnm hP hD hS in_X7_init_X7 tyX7 tyX7_ok nmX7 0 rfl rfl 33 (by decide) 25 rfl rfl rfl rfl rfl (Nat.le_of_ble_eq_true rfl) dX7_init_155 [(b, .inr (7, [.int 0, .int 0, .ref q1, .ref q2, .ref q3, .ref q4, .int 0, .int 0, .ref q5, .ref q6, .ref q7, .ref q8, .int 0, .ref q9, .ref q10, .ref q11, .ref q12, .int 0, .int 0, .int 0, .int 0, .long 0, .ref q13, .int 0, .int 0, .int 0, .int 0, .ref q14, .ref q15, .ref q16, .ref q17, .ref q18, .ref q19, .ref q20, .long 0])), (q1, .inl (cI, 4, .inl z0)), (q2, .inl (cI, 16, .inl z0)), (q3, .inl (cI, 4, .inl z0)), (q4, .inl (cI, 4, .inl z0)), (q5, .inl (cI, 6, .inl z0)), (q6, .inl (cI, 6, .inl z0)), (q7, .inl (cI, 6, .inl z0)), (q8, .inl (cI, 6, .inl z0)), (q9, .inl (cB, 25, .inl z0)), (q10, .inl (cI, 16, .inl z0)), (q11, .inl (cI, 4, .inl z0)), (q12, .inl (cI, 256, .inl z0)), (q13, .inl (cI, 4, .inl z0)), (q14, .inl (cI, 16, .inl z0)), (q15, .inl (cI, 4, .inl z0)), (q16, .inl (cI, 4, .inl z0)), (q17, .inl (cI, 6, .inl z0)), (q18, .inl (cI, 6, .inl z0)), (q19, .inl (cI, 6, .inl z0)), (q20, .inl (cI, 6, .inl z0))] rfl (fun H locs hP hD hS => ?_)
  exact ret_n F (cat 1 (fun _ => b) (cat 1 (fun _ => q1) (cat 1 (fun _ => q2) (cat 1 (fun _ => q3) (cat 1 (fun _ => q4) (cat 1 (fun _ => q5) (cat 1 (fun _ => q6) (cat 1 (fun _ => q7) (cat 1 (fun _ => q8) (cat 1 (fun _ => q9) (cat 1 (fun _ => q10) (cat 1 (fun _ => q11) (cat 1 (fun _ => q12) (cat 1 (fun _ => q13) (cat 1 (fun _ => q14) (cat 1 (fun _ => q15) (cat 1 (fun _ => q16) (cat 1 (fun _ => q17) (cat 1 (fun _ => q18) (cat 1 (fun _ => q19) (fun _ => q20))))))))))))))))))))) rfl hP hD hS (Nat.le_of_ble_eq_true rfl) (Nat.le_of_ble_eq_true rfl) dX7_init_158
-- {'X3': (1, 0, 1, 22), 'X5': (1, 16, 1, 12), 'X2': (2, 26, 2, 43), 'X4': (12, 50, 2, 43), 'X1': (15, 64, 3, 63), 'X0': (4, 50, 2, 43), 'X6': (37, 211, 4, 83), 'X7': (20, 405, 1, 12)}
