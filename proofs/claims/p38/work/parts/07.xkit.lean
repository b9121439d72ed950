/-- where a method threw E: the world behind it -/
def XT (D : va_G) (w0 : va_W) (E : String) (w1 : va_W) (sz : Nat) : String → State → State → Prop := fun E' st t => (E' = E ∧ va_P D vwCl w1 t.heap ∧ va_D (va_A w0 sz) w1 ∧ sz ≤ t.heap.size) ∧ va_F (va_A w0 sz) st t
/-- a method that always throws E from the world w0, and leaves w1 -/
def CT (l : Launch) (D : va_G) (k : Nat → ClassId) (y : MethodName) (cy : ByteArray) (ny : Nat) (ret : Option FieldType) (fr lo : Nat) (av : List Value) (w0 : va_W) (E : String) (w1 : va_W) (mc ms : Nat) : Prop :=
  ∀ sz : Nat, vx_Met l y (Cond.code y cy ny ret :: WG) { frames := fr, cells := mc, slots := ms, locals := lo }
    (va_Pc av (fun U => U.heap.size = sz ∧ va_P D vwCl w0 U.heap ∧ va_K D vwCl (tyG k) U ∧ va_D (fun _ => True) w0 ∧ NE l (va_A w0 sz) U))
    (fun _ _ _ _ => False) (XT D w0 E w1 sz) mc ms (va_A w0 sz)
abbrev QT (below : List Frame) (D : va_G) (args : Array Value) (s : State) (w0 : va_W) (E : String) (w1 : va_W) (mc ms : Nat) : State → Prop :=
  vx_MQ below (fun _ _ _ _ => False) (XT D w0 E w1 s.heap.size) args s mc ms (va_A w0 s.heap.size)
theorem CT.of {l : Launch} {D : va_G} {k : Nat → ClassId} {y : MethodName} {cy : ByteArray} {ny : Nat} {ret : Option FieldType} {fr lo : Nat} {av : List Value} {w0 : va_W} {E : String} {w1 : va_W} {mc ms : Nat} {lv0 : List (Nat × Value)}
    (hy : plainName y.cls = true) (hn : (lg_sl av).length ≤ ny) (hlv : lv_args 0 av = lv0)
    (body : ∀ (p : Program) (e : Env) (s : State) (m : MethodId) (below : List Frame) (meth : Method) (c : Code), Cx p l s m av.toArray c D k (va_A w0 s.heap.size) cy y.cls ny → meth.sig.returnType = ret → meth.locks = false → meth.name = y.name → l.admits e → (∀ x ∈ c.exceptionTable.toList, False) →
      G p l e { frames := fr, cells := mc, slots := ms, locals := lo } s m av.toArray below meth c D ny (va_A w0 s.heap.size) (QT below D av.toArray s w0 E w1 mc ms) w0 lv0 0 0 0 0 []) :
    CT l D k y cy ny ret fr lo av w0 E w1 mc ms := by
  intro sz
  refine vx_ofW (cc := cy) (maxL := ny) (ret := ret) hy rfl ?_
  intro p e s m args below meth c s₁ B hml hex hv
  obtain ⟨rfl, hsz, hP, hK, hD0, hNF⟩ := hv
  subst hsz
  have hts0 := atoms_spec (ws := Cond.code y cy ny ret :: WG) B.pre
  have hown : s.vm.findClass y.cls = some m.cls := findClass_of_methodNamed B.named
  have hA : ∀ q : Nat, s.heap.size ≤ q → va_A w0 s.heap.size q := fun q h => Or.inr h
  have hl := lv_entry av (n := ny) hn
  rw [hlv] at hl
  rw [lg_entry_eq]
  exact body p e s m below meth c ⟨B.exec, B.bytes, hml, hown, fun w hw => hts0 w (List.mem_cons_of_mem _ hw), hK, hA, hNF⟩ B.returns B.notSynchronized (name_of_methodNamed B.named B.method).1 (Stand.of_body B).admits hex s.heap [] hP hD0.self va_S.rf (Nat.le_refl _) _ hl
section GTX
variable {p : Program} {l : Launch} {e : Env} {R : Room} {s : State} {m : MethodId} {args : Array Value} {below : List Frame} {meth : Method} {c : Code} {D : va_G} {k : Nat → ClassId} {A : Nat → Prop} {cc : ByteArray} {own : String} {nL : Nat} {Q : State → Prop} {ws : va_W} {lv : List (Nat × Value)} {cells slots g pc : Nat} {st : List Value}
/-- E is thrown in this method at pc: the walk goes on well -/
def GT (p : Program) (l : Launch) (e : Env) (R : Room) (s : State) (m : MethodId) (args : Array Value) (below : List Frame) (meth : Method) (c : Code) (D : va_G) (nL : Nat) (A : Nat → Prop) (Q : State → Prop) (ws : va_W) (lv : List (Nat × Value)) (cells slots g pc : Nat) (E : String) : Prop :=
  ∀ (H : Heap) (locs : List Loc), va_P D vwCl ws H → va_D A ws → va_S A s.heap H locs → s.heap.size + g ≤ H.size → ∀ ls : Array Slot, lv_has ls nL lv → ∀ (rest : List Value) (ce : Cell) (q : Nat), H[q]? = some ce → ce.vm = .none → s.vm.findClass E = some ce.cls → vx_W p l e R s m args below meth c H locs cells slots Q (F0 m pc ls rest) q
theorem GT.re {E : String} (ps : List Nat) {ws' : va_W} {cells' slots' : Nat} (hn : va_nd ps = true) (hs : ps.map (fun i => ws[i]?) = ws'.map some) (h2 : cells = cells') (h3 : slots = slots') (kk : GT p l e R s m args below meth c D nL A Q ws' lv cells' slots' g pc E) : GT p l e R s m args below meth c D nL A Q ws lv cells slots g pc E := by
  subst h2 h3
  intro H locs hP hD hS hZ ls hl
  exact kk H locs (hP.sub ps (sub_of hs)) (hD.sub ps hn hs) hS hZ ls hl
theorem GT.out {args : Array Value} {w0 : va_W} {E E' : String} {w1 : va_W} {mc ms : Nat} (hlk : meth.locks = false) (ht : ∀ x ∈ c.exceptionTable.toList, False) (hc : cells ≤ mc) (hs : slots ≤ ms) (hw : ws = w1) (hE : E' = E) : GT p l e R s m args below meth c D nL (va_A w0 s.heap.size) (QT below D args s w0 E w1 mc ms) ws lv cells slots g pc E' := by
  subst hw hE
  intro H locs hP hD hS hZ ls hl rest ce q hce hv hcl
  exact vx_out (fun x hx => (ht x hx).elim) hlk hce hv hcl (fun t hH ha => ⟨⟨rfl, by rw [hH]; exact hP, hD, by rw [hH]; exact Nat.le_trans (Nat.le_add_right _ _) hZ⟩, hS.F hH⟩) hS.2.2 hc hs
theorem GT.catch (C : Cx p l s m args c D k A cc own nL) {E : String} (pre : List ExceptionTableEntry) (x : ExceptionTableEntry) (suf : List ExceptionTableEntry) (hsplit : c.exceptionTable.toList = pre ++ x :: suf)
    (hpass : ∀ z ∈ pre, covers z pc = false ∨ (z.catchType ≠ 0 ∧ ∃ nm : String, Cond.classLink own z.catchType nm ∈ WG ∧ nm ∈ excN ∧ E ≠ nm)) (hE : E ∈ excN) (hx : covers x pc = true) (h0 : x.catchType ≠ 0) (hlink : Cond.classLink own x.catchType E ∈ WG)
    (kk : ∀ q : Nat, G p l e R s m args below meth c D nL A Q ws lv cells slots g x.handlerPc [.ref q]) : GT p l e R s m args below meth c D nL A Q ws lv cells slots g pc E := by
  intro H locs hP hD hS hZ ls hl rest ce q hce hv hcl
  have hTs := C.2.2.2.2.1
  refine vx_catch C.2.2.2.1 pre x suf hsplit (fun z hz => ?_) hx h0 (hTs _ hlink) ((C.2.2.2.2.2.2.2.2.1.2.2.1 E hE).use rfl) hce hv hcl (kk q H locs hP hD hS hZ ls hl)
  rcases hpass z hz with h | ⟨h1, nm, h2, h3, h4⟩
  · exact Or.inl h
  · exact Or.inr ⟨h1, nm, hTs _ h2, C.2.2.2.2.2.2.2.2.1.2.2.2 E hE nm h3 h4⟩
theorem g_throwS {args : Array Value} {w0 : va_W} (C : Cx p l s m args c D k (va_A w0 s.heap.size) cc own nL) {E : String} {w1 : va_W} {mc ms : Nat} {text : String} {ik is ic : Nat} (names : List String) (hstr : (own, is, text) ∈ strW) (hE : E ∈ excN) (hk : Cond.classLink own ik E ∈ WG) (hini : Cond.initialized E ∈ WG)
    (hat : ∀ w ∈ (vx_atS own ic E names).filter goodWord, w ∈ WG) (hat2 : ∀ w ∈ (vx_atS own ic E names).filter (fun w => !goodWord w), w = .castable E E ∨ ∃ y ∈ declW, w = .declares y) (hgood : ∀ w ∈ Cond.classLink own ik E :: Cond.initialized E :: vx_atS own ic E names, vx_ot w = true) (hcf : Bundle.fit E = true) (hnf : ∀ n ∈ names, Bundle.fit n = true)
    (d0 : decode cc pc = .ok (.new ik, 3)) (d3 : decode cc (pc + 3) = .ok (.dup, 1)) (d4 : decode cc (pc + 4) = .ok (.ldc is, 2)) (d6 : decode cc (pc + 6) = .ok (.invokespecial ic, 3)) (d9 : decode cc (pc + 9) = .ok (.athrow, 1)) (ht : ∀ x ∈ c.exceptionTable.toList, False)
    (hfr : names.length + 3 < R.frames) (hlo : (st.map fun v => v.category).sum + (13 * (names.length + 1) + 43) ≤ R.locals) (hcells : cells + 1 ≤ R.cells) (hslots : slots + 6 ≤ R.slots) (hlk : meth.locks = false) (hw : ws = w1) (hc : cells + 1 ≤ mc) (hs : slots + 6 ≤ ms) :
    G p l e R s m args below meth c D nL (va_A w0 s.heap.size) (QT below D args s w0 E w1 mc ms) ws lv cells slots g pc st := by
  subst hw
  intro H locs hP hD hS hZ ls hl
  have hTs := C.2.2.2.2.1
  have hNX := C.2.2.2.2.2.2.2.2.1
  have hEX := C.2.2.2.2.2.2.2.2.2
  obtain ⟨sa, hsa⟩ := hNX.2.1 _ hstr
  have hcast : (Cond.castable E E).before args s = true := (hNX.2.2.1 E hE).use rfl
  refine vx_throwS (A := va_A w0 s.heap.size) C.1 C.2.1 hEX.1 C.2.2.2.1 hcf hnf (hTs _ hk) (hTs _ hini) hsa (vx_hat (B := .castable E E :: declW.map .declares) (fun w hw => hTs w (hat w hw)) (fun w hw => by
    rcases hat2 w hw with h | ⟨y, hy, h⟩
    · rw [h]; exact List.mem_cons_self
    · rw [h]; exact List.mem_cons_of_mem _ (List.mem_map_of_mem hy)) (vx_c hcast (fun w hw => by
    obtain ⟨y, hy, rfl⟩ := List.mem_map.mp hw
    exact (hNX.1 y hy).use rfl))) hgood hEX.2.1 hEX.2.2 hS (hl.1.trans C.2.2.1.symm) d0 d3 d4 d6 d9 (fun x hx => (ht x hx).elim) hfr hlo hcells hslots hlk (fun t ha hz hk => ?_) hS.2.2 hc hs
  refine ⟨⟨rfl, hP.kept fun i x hx => hk x.1 ((hP i x hx).lt), hD, by omega⟩, ⟨Nat.le_trans hS.1 hz, fun q h1 h2 => (hk q (Nat.lt_of_lt_of_le h1 hS.1)).trans (hS.2.1 q h1 h2)⟩⟩
theorem g_throwSW {args : Array Value} {w0 : va_W} (C : Cx p l s m args c D k (va_A w0 s.heap.size) cc own nL) {E : String} {w1 : va_W} {mc ms : Nat} {text : String} {ik is ic : Nat} (names : List String) (hstr : (own, is, text) ∈ strW) (hE : E ∈ excN) (hk : Cond.classLink own ik E ∈ WG) (hini : Cond.initialized E ∈ WG)
    (hat : ∀ w ∈ (vx_atS own ic E names).filter goodWord, w ∈ WG) (hat2 : ∀ w ∈ (vx_atS own ic E names).filter (fun w => !goodWord w), w = .castable E E ∨ ∃ y ∈ declW, w = .declares y) (hgood : ∀ w ∈ Cond.classLink own ik E :: Cond.initialized E :: vx_atS own ic E names, vx_ot w = true) (hcf : Bundle.fit E = true) (hnf : ∀ n ∈ names, Bundle.fit n = true)
    (d0 : decode cc pc = .ok (.new ik, 3)) (d3 : decode cc (pc + 3) = .ok (.dup, 1)) (d4 : decode cc (pc + 4) = .ok (.ldc_w is, 3)) (d7 : decode cc (pc + 7) = .ok (.invokespecial ic, 3)) (d10 : decode cc (pc + 10) = .ok (.athrow, 1)) (ht : ∀ x ∈ c.exceptionTable.toList, False)
    (hfr : names.length + 3 < R.frames) (hlo : (st.map fun v => v.category).sum + (13 * (names.length + 1) + 43) ≤ R.locals) (hcells : cells + 1 ≤ R.cells) (hslots : slots + 6 ≤ R.slots) (hlk : meth.locks = false) (hw : ws = w1) (hc : cells + 1 ≤ mc) (hs : slots + 6 ≤ ms) :
    G p l e R s m args below meth c D nL (va_A w0 s.heap.size) (QT below D args s w0 E w1 mc ms) ws lv cells slots g pc st := by
  subst hw
  intro H locs hP hD hS hZ ls hl
  have hTs := C.2.2.2.2.1
  have hNX := C.2.2.2.2.2.2.2.2.1
  have hEX := C.2.2.2.2.2.2.2.2.2
  obtain ⟨sa, hsa⟩ := hNX.2.1 _ hstr
  have hcast : (Cond.castable E E).before args s = true := (hNX.2.2.1 E hE).use rfl
  refine vx_throwSW (A := va_A w0 s.heap.size) C.1 C.2.1 hEX.1 C.2.2.2.1 hcf hnf (hTs _ hk) (hTs _ hini) hsa (vx_hat (B := .castable E E :: declW.map .declares) (fun w hw => hTs w (hat w hw)) (fun w hw => by
    rcases hat2 w hw with h | ⟨y, hy, h⟩
    · rw [h]; exact List.mem_cons_self
    · rw [h]; exact List.mem_cons_of_mem _ (List.mem_map_of_mem hy)) (vx_c hcast (fun w hw => by
    obtain ⟨y, hy, rfl⟩ := List.mem_map.mp hw
    exact (hNX.1 y hy).use rfl))) hgood hEX.2.1 hEX.2.2 hS (hl.1.trans C.2.2.1.symm) d0 d3 d4 d7 d10 (fun x hx => (ht x hx).elim) hfr hlo hcells hslots hlk (fun t ha hz hk => ?_) hS.2.2 hc hs
  refine ⟨⟨rfl, hP.kept fun i x hx => hk x.1 ((hP i x hx).lt), hD, by omega⟩, ⟨Nat.le_trans hS.1 hz, fun q h1 h2 => (hk q (Nat.lt_of_lt_of_le h1 hS.1)).trans (hS.2.1 q h1 h2)⟩⟩
theorem g_doneT (C : Cx p l s m args c D k A cc own nL) {H : Heap} {locs : List Loc} {ls : Array Slot} {mc ms : Nat} {w0 wr w1 : va_W} {E : String} {As0 : List Value} (isC isR : List Nat) (hC : isC.map (fun i => ws[i]?) = w0.map some) (hRr : isR.map (fun i => ws[i]?) = wr.map some) (hn : va_nd isR = true) (hnc : va_nd isC = true) (hdis : ∀ i ∈ isR, i ∉ isC) (hP : va_P D vwCl ws H) (hD : va_D A ws) (hS : va_S A s.heap H locs) (hZ : s.heap.size + g ≤ H.size) (hl : lv_has ls nL lv) (hFc : ∀ q, va_A w0 H.size q → A q)
    (hr : vx_Run p l e R s m args below meth c H locs cells slots mc ms (F0 m pc ls As0) st (fun _ _ _ => False) (XT D w0 E w1 H.size) (va_A w0 H.size))
    (kx : GT p l e R s m args below meth c D nL A Q (wr ++ w1) lv (cells + mc) (slots + ms) g pc E) : W p l e R s m args below meth c H locs cells slots Q (F0 m pc ls As0) := by
  intro T hT X
  rcases hr T hT X with ⟨v, st0, t, T', L, h0, X', hL, e1, e2, hF, go⟩ | ⟨q, st0, t, T', L, E', ce, e0, X', hL, e1, e2, ⟨⟨rfl, h3, h4, h5⟩, h6⟩, hce, hcv, hcl, go⟩
  · exact hF.elim
  have hk1 : ∀ q : Nat, q < H.size → ¬ va_A w0 H.size q → t.heap[q]? = H[q]? := fun q hq hn => by rw [← e0]; exact h6.2 q (by rw [e0]; exact hq) hn
  obtain ⟨hP1, hD1⟩ := va_join (wr := wr) (w1 := w1) hP hD isC isR hC hRr hn hdis hk1 hFc h3 h4
  obtain ⟨t2, a1, b1⟩ := kx t.heap (locs ++ L) hP1 hD1 ⟨Nat.le_trans hS.1 h5, fun q hq hn9 => (hk1 q (Nat.lt_of_lt_of_le hq hS.1) (fun z => hn9 (hFc q z))).trans (hS.2.1 q hq hn9), fun x hx => (List.mem_append.mp hx).elim (hS.2.2 x) (fun h => hFc _ (hL x h))⟩ (Nat.le_trans hZ h5) ls hl st ce q hce hcv hcl T' e1 X'
  exact ⟨t2, go.trans a1, b1⟩
theorem g_callVT (C : Cx p l s m args c D k A cc own nL) {y : MethodName} {cy : ByteArray} {ny idx : Nat} {ret : Option FieldType} {fr lo b mc ms : Nat} {As : List Value} {w0 wr w1 : va_W} {E : String} {Cn : String} {T : u_T} {N ci q0 : Nat} {fs : List Value} {nA : Nat} (hAs : As.length = nA) (hM : CT l D k y cy ny ret fr lo (.ref b :: As) w0 E w1 mc ms) (h1 : Cond.methodLink own idx y ∈ WG) (h2 : Cond.instanceMethod y ∈ WG) (h3 : Cond.selects Cn y y ∈ WG) (h4 : Cond.initialized Cn ∈ WG) (h5 : Cond.code y cy ny ret ∈ WG) (hd : y.cls = Cn ∧ y.cls ≠ "java/lang/invoke/MethodHandle" ∧ y.cls ≠ "java/lang/invoke/VarHandle" ∧ (parseMethodDescriptor y.desc).map (fun d => d.parameters.length) = some nA) (he : ws[q0]? = some (b, .inr (ci, fs))) (hc : vwCl[ci]? = some (Cn, T, N)) (hdg : decode cc pc = .ok (.invokevirtual idx, 3)) (hR : fr + 1 ≤ R.frames ∧ 8 + (ny + 11) + lo ≤ R.locals) (isC isR : List Nat) (hC : isC.map (fun i => ws[i]?) = w0.map some) (hRr : isR.map (fun i => ws[i]?) = wr.map some) (hn : va_nd isR = true) (hnc : va_nd isC = true) (hdis : ∀ i ∈ isR, i ∉ isC) (hcat : (st.map fun v => v.category).sum ≤ 8) (hf : cells + mc ≤ R.cells ∧ slots + ms ≤ R.slots) (kx : GT p l e R s m args below meth c D nL A Q (wr ++ w1) lv (cells + mc) (slots + ms) g pc E) : G p l e R s m args below meth c D nL A Q ws lv cells slots g pc (As.reverse ++ .ref b :: st) := by
  intro H locs hP hD hS hZ ls hl
  have hTs := C.2.2.2.2.1
  have hPc := hP.sub (ws' := w0) isC (sub_of hC)
  have hDc := hD.sub (ws' := w0) isC hnc hC
  have hFc := va_free (wc := w0) hD hS C.2.2.2.2.2.2.1 isC hC
  exact g_doneT C isC isR hC hRr hn hnc hdis hP hD hS hZ hl hFc (vx_runV (As := As) (rest := st) ⟨C.1, C.2.1, C.2.2.1, C.2.2.2.1, hTs⟩ (hM H.size) (cwV nA hTs (wg_V h1 h2 h3 h4 h5) rfl rfl rfl hd hR) ⟨(fun a U g9 mk q => ⟨q.1, q.2.1, q.2.2.1, va_K.moved (u := U) (U := U.calling g9 mk a) (Vm.Alike.refl U.vm) q.2.2.2.1, q.2.2.2.2.1, NE.same (u := U) (U := U.calling g9 mk a) rfl rfl q.2.2.2.2.2⟩), va_recv C.2.2.2.2.2.1 hP hc he, (fun U hU hW => ⟨rfl, by rw [hU], by rw [hU]; exact hPc, va_K.moved hW.alike C.2.2.2.2.2.1, hDc.weaken (fun _ _ _ _ => trivial), NE.warm hW hU hS hFc C.2.2.2.2.2.2.2⟩)⟩ rfl hAs hl.1 rfl (lv_room hcat) hdg hf) kx
end GTX
section GMORE
variable {p : Program} {l : Launch} {e : Env} {R : Room} {s : State} {m : MethodId} {args : Array Value} {below : List Frame} {meth : Method} {c : Code} {D : va_G} {k : Nat → ClassId} {A : Nat → Prop} {cc : ByteArray} {own : String} {nL : Nat} {Q : State → Prop} {ws : va_W} {lv : List (Nat × Value)} {cells slots g pc : Nat} {st : List Value}
theorem g_ifnonnull (C : Cx p l s m args c D k A cc own nL) {x : Nat} {off : Int} (tgt : Nat) (ht : (pc : Int) + off = (tgt : Int)) (hdg : decode cc pc = .ok (.ifnonnull off, 3)) (kk : G p l e R s m args below meth c D nL A Q ws lv cells slots g tgt st) : G p l e R s m args below meth c D nL A Q ws lv cells slots g pc (.ref x :: st) := fun H locs hP hD hS hZ ls hl => lv_ifnonnull C.1 C.2.1 hdg ht (kk H locs hP hD hS hZ ls hl)
theorem g_ifnull (C : Cx p l s m args c D k A cc own nL) {x : Nat} {off : Int} (hdg : decode cc pc = .ok (.ifnull off, 3)) (kk : G p l e R s m args below meth c D nL A Q ws lv cells slots g (pc + 3) st) : G p l e R s m args below meth c D nL A Q ws lv cells slots g pc (.ref x :: st) := fun H locs hP hD hS hZ ls hl => lv_ifnull C.1 C.2.1 hdg (kk H locs hP hD hS hZ ls hl)
theorem g_ifnullN (C : Cx p l s m args c D k A cc own nL) {off : Int} (tgt : Nat) (ht : (pc : Int) + off = (tgt : Int)) (hdg : decode cc pc = .ok (.ifnull off, 3)) (kk : G p l e R s m args below meth c D nL A Q ws lv cells slots g tgt st) : G p l e R s m args below meth c D nL A Q ws lv cells slots g pc (.null :: st) := fun H locs hP hD hS hZ ls hl => lv_ifnullN C.1 C.2.1 hdg ht (kk H locs hP hD hS hZ ls hl)
theorem g_ifnonnullN (C : Cx p l s m args c D k A cc own nL) {off : Int} (hdg : decode cc pc = .ok (.ifnonnull off, 3)) (kk : G p l e R s m args below meth c D nL A Q ws lv cells slots g (pc + 3) st) : G p l e R s m args below meth c D nL A Q ws lv cells slots g pc (.null :: st) := fun H locs hP hD hS hZ ls hl => lv_ifnonnullN C.1 C.2.1 hdg (kk H locs hP hD hS hZ ls hl)
theorem g_fconst0 (C : Cx p l s m args c D k A cc own nL) (hdg : decode cc pc = .ok (.fconst 0, 1)) (kk : G p l e R s m args below meth c D nL A Q ws lv cells slots g (pc + 1) (.float 0 :: st)) : G p l e R s m args below meth c D nL A Q ws lv cells slots g pc st := fun H locs hP hD hS hZ ls hl => lv_fconst0 C.1 C.2.1 hdg (kk H locs hP hD hS hZ ls hl)
theorem g_dconst0 (C : Cx p l s m args c D k A cc own nL) (hdg : decode cc pc = .ok (.dconst 0, 1)) (kk : G p l e R s m args below meth c D nL A Q ws lv cells slots g (pc + 1) (.double 0 :: st)) : G p l e R s m args below meth c D nL A Q ws lv cells slots g pc st := fun H locs hP hD hS hZ ls hl => lv_dconst0 C.1 C.2.1 hdg (kk H locs hP hD hS hZ ls hl)
theorem g_fstore (C : Cx p l s m args c D k A cc own nL) {i : Nat} {x : UInt32} (lv' : List (Nat × Value)) (hdg : decode cc pc = .ok (.fstore i, 2)) (hn : i < nL) (hf : (i, Value.float x) :: lv.filter (fun q => !(q.1 == i) && !(q.1 + 1 == i && q.2.category == 2)) = lv') (kk : G p l e R s m args below meth c D nL A Q ws lv' cells slots g (pc + 2) st) : G p l e R s m args below meth c D nL A Q ws lv cells slots g pc (.float x :: st) := fun H locs hP hD hS hZ ls hl => lv_fstore C.1 C.2.1 hdg hl hn hf (fun ls hl => kk H locs hP hD hS hZ ls hl)
theorem g_fstore_n (C : Cx p l s m args c D k A cc own nL) {n : Fin 4} {i : Nat} {x : UInt32} (lv' : List (Nat × Value)) (hi : (n : Nat) = i) (hdg : decode cc pc = .ok (.fstore_n n, 1)) (hn : i < nL) (hf : (i, Value.float x) :: lv.filter (fun q => !(q.1 == i) && !(q.1 + 1 == i && q.2.category == 2)) = lv') (kk : G p l e R s m args below meth c D nL A Q ws lv' cells slots g (pc + 1) st) : G p l e R s m args below meth c D nL A Q ws lv cells slots g pc (.float x :: st) := fun H locs hP hD hS hZ ls hl => lv_fstore_n C.1 C.2.1 hdg hi hl hn hf (fun ls hl => kk H locs hP hD hS hZ ls hl)
theorem g_lstore (C : Cx p l s m args c D k A cc own nL) {i : Nat} {x : Int64} (lv' : List (Nat × Value)) (hdg : decode cc pc = .ok (.lstore i, 2)) (hn : i + 1 < nL) (hf : (i, Value.long x) :: lv.filter (fun q => !(q.1 == i) && (!(q.1 == i + 1) && !(q.1 + 1 == i && q.2.category == 2))) = lv') (kk : G p l e R s m args below meth c D nL A Q ws lv' cells slots g (pc + 2) st) : G p l e R s m args below meth c D nL A Q ws lv cells slots g pc (.long x :: st) := fun H locs hP hD hS hZ ls hl => lv_lstore C.1 C.2.1 hdg hl hn hf (fun ls hl => kk H locs hP hD hS hZ ls hl)
theorem g_lstore_n (C : Cx p l s m args c D k A cc own nL) {n : Fin 4} {i : Nat} {x : Int64} (lv' : List (Nat × Value)) (hi : (n : Nat) = i) (hdg : decode cc pc = .ok (.lstore_n n, 1)) (hn : i + 1 < nL) (hf : (i, Value.long x) :: lv.filter (fun q => !(q.1 == i) && (!(q.1 == i + 1) && !(q.1 + 1 == i && q.2.category == 2))) = lv') (kk : G p l e R s m args below meth c D nL A Q ws lv' cells slots g (pc + 1) st) : G p l e R s m args below meth c D nL A Q ws lv cells slots g pc (.long x :: st) := fun H locs hP hD hS hZ ls hl => lv_lstore_n C.1 C.2.1 hdg hi hl hn hf (fun ls hl => kk H locs hP hD hS hZ ls hl)
theorem g_dstore (C : Cx p l s m args c D k A cc own nL) {i : Nat} {x : UInt64} (lv' : List (Nat × Value)) (hdg : decode cc pc = .ok (.dstore i, 2)) (hn : i + 1 < nL) (hf : (i, Value.double x) :: lv.filter (fun q => !(q.1 == i) && (!(q.1 == i + 1) && !(q.1 + 1 == i && q.2.category == 2))) = lv') (kk : G p l e R s m args below meth c D nL A Q ws lv' cells slots g (pc + 2) st) : G p l e R s m args below meth c D nL A Q ws lv cells slots g pc (.double x :: st) := fun H locs hP hD hS hZ ls hl => lv_dstore C.1 C.2.1 hdg hl hn hf (fun ls hl => kk H locs hP hD hS hZ ls hl)
theorem g_dstore_n (C : Cx p l s m args c D k A cc own nL) {n : Fin 4} {i : Nat} {x : UInt64} (lv' : List (Nat × Value)) (hi : (n : Nat) = i) (hdg : decode cc pc = .ok (.dstore_n n, 1)) (hn : i + 1 < nL) (hf : (i, Value.double x) :: lv.filter (fun q => !(q.1 == i) && (!(q.1 == i + 1) && !(q.1 + 1 == i && q.2.category == 2))) = lv') (kk : G p l e R s m args below meth c D nL A Q ws lv' cells slots g (pc + 1) st) : G p l e R s m args below meth c D nL A Q ws lv cells slots g pc (.double x :: st) := fun H locs hP hD hS hZ ls hl => lv_dstore_n C.1 C.2.1 hdg hi hl hn hf (fun ls hl => kk H locs hP hD hS hZ ls hl)
theorem g_tableO (C : Cx p l s m args c D k A cc own nL) {dflt lo hi : Int} {offs : Array Int} {len : Nat} {x : Int32} (tgt : Nat) (hdg : decode cc pc = .ok (.tableswitch dflt lo hi offs, len)) (h : x.toInt < lo ∨ hi < x.toInt) (ht : (pc : Int) + dflt = (tgt : Int)) (kk : G p l e R s m args below meth c D nL A Q ws lv cells slots g tgt st) : G p l e R s m args below meth c D nL A Q ws lv cells slots g pc (.int x :: st) := fun H locs hP hD hS hZ ls hl => lv_tableOut C.1 C.2.1 hdg h ht (kk H locs hP hD hS hZ ls hl)
end GMORE
section GR
variable {p : Program} {l : Launch} {e : Env} {R : Room} {s : State} {m : MethodId} {args : Array Value} {below : List Frame} {meth : Method} {c : Code} {D : va_G} {k : Nat → ClassId} {cc : ByteArray} {own : String} {nL : Nat} {w0 ws : va_W} {post : Option Value → va_W → Prop} {mc ms gr : Nat} {lv : List (Nat × Value)} {cells slots g pc : Nat}
theorem g_fret (C : Cx p l s m args c D k (va_A w0 s.heap.size) cc own nL) {v : UInt32} (hr : meth.sig.returnType = some .float) (hlk : meth.locks = false) (hc : cells ≤ mc) (hs : slots ≤ ms) (hg : gr ≤ g) (hdg : decode cc pc = .ok (.freturn, 1)) (hq : post (some (.float v)) ws) : G p l e R s m args below meth c D nL (va_A w0 s.heap.size) (QM below D args s w0 post mc ms gr) ws lv cells slots g pc [.float v] := by
  intro H locs hP hD hS hZ ls hl
  refine W.widen hc hs ?_
  exact W.fret C.1 C.2.1 hr (fun t ht hW => ⟨⟨_, ws, rfl, hq, by rw [ht]; exact hP, hD, by rw [ht]; exact Nat.le_trans (Nat.add_le_add_left hg _) hZ⟩, hS.F ht⟩) hS.2.2 hdg hlk
theorem g_dret (C : Cx p l s m args c D k (va_A w0 s.heap.size) cc own nL) {v : UInt64} (hr : meth.sig.returnType = some .double) (hlk : meth.locks = false) (hc : cells ≤ mc) (hs : slots ≤ ms) (hg : gr ≤ g) (hdg : decode cc pc = .ok (.dreturn, 1)) (hq : post (some (.double v)) ws) : G p l e R s m args below meth c D nL (va_A w0 s.heap.size) (QM below D args s w0 post mc ms gr) ws lv cells slots g pc [.double v] := by
  intro H locs hP hD hS hZ ls hl
  refine W.widen hc hs ?_
  exact W.dret C.1 C.2.1 hr (fun t ht hW => ⟨⟨_, ws, rfl, hq, by rw [ht]; exact hP, hD, by rw [ht]; exact Nat.le_trans (Nat.add_le_add_left hg _) hZ⟩, hS.F ht⟩) hS.2.2 hdg hlk
end GR
