/-- as CM, of a method with a table of its own -/
def CMW (l : Launch) (D : va_G) (k : Nat → ClassId) (y : MethodName) (cy : ByteArray) (ny : Nat) (ret : Option FieldType) (hh : List (Nat × Nat × Nat × Nat)) (fr lo : Nat) (av : List Value) (w0 : va_W) (post : Option Value → va_W → Prop) (mc ms gr : Nat) : Prop :=
  ∀ sz : Nat, Met l y (Cond.codeWith y cy ny ret hh :: WG) { frames := fr, cells := mc, slots := ms, locals := lo }
    (va_Pc av (fun U => U.heap.size = sz ∧ va_P D vwCl w0 U.heap ∧ va_K D vwCl (tyG k) U ∧ va_D (fun _ => True) w0 ∧ NE l (va_A w0 sz) U))
    (fun _ st o t => (∃ (rv : Option Value) (w1 : va_W), o = .returned rv ∧ post rv w1 ∧ va_P D vwCl w1 t.heap ∧ va_D (va_A w0 sz) w1 ∧ sz + gr ≤ t.heap.size) ∧ va_F (va_A w0 sz) st t) mc ms (va_A w0 sz)
theorem CMW.of {l : Launch} {D : va_G} {k : Nat → ClassId} {y : MethodName} {cy : ByteArray} {ny : Nat} {ret : Option FieldType} {hh : List (Nat × Nat × Nat × Nat)} {fr lo : Nat} {av : List Value} {w0 : va_W} {post : Option Value → va_W → Prop} {mc ms gr : Nat} {lv0 : List (Nat × Value)}
    (hy : plainName y.cls = true) (hn : (lg_sl av).length ≤ ny) (hlv : lv_args 0 av = lv0)
    (body : ∀ (p : Program) (e : Env) (s : State) (m : MethodId) (below : List Frame) (meth : Method) (c : Code), Cx p l s m av.toArray c D k (va_A w0 s.heap.size) cy y.cls ny → meth.sig.returnType = ret → meth.locks = false → meth.name = y.name → l.admits e → c.exceptionTable.toList = tableOf hh →
      G p l e { frames := fr, cells := mc, slots := ms, locals := lo } s m av.toArray below meth c D ny (va_A w0 s.heap.size) (QM below D av.toArray s w0 post mc ms gr) w0 lv0 0 0 0 0 []) :
    CMW l D k y cy ny ret hh fr lo av w0 post mc ms gr := by
  intro sz
  refine va_MetW (cc := cy) (maxL := ny) (ret := ret) (hh := hh) hy rfl ?_
  intro p e s m args below meth c s₁ B hml hv
  obtain ⟨rfl, hsz, hP, hK, hD0, hNF⟩ := hv
  subst hsz
  have hts0 := atoms_spec (ws := Cond.codeWith y cy ny ret hh :: WG) B.pre
  have hown : s.vm.findClass y.cls = some m.cls := findClass_of_methodNamed B.named
  have hA : ∀ q : Nat, s.heap.size ≤ q → va_A w0 s.heap.size q := fun q h => Or.inr h
  have hl := lv_entry av (n := ny) hn
  rw [hlv] at hl
  rw [lg_entry_eq]
  exact body p e s m below meth c ⟨B.exec, B.bytes, hml, hown, fun w hw => hts0 w (List.mem_cons_of_mem _ hw), hK, hA, hNF⟩ B.returns B.notSynchronized (name_of_methodNamed B.named B.method).1 (Stand.of_body B).admits (vx_table (x := y) B (hts0 _ List.mem_cons_self)) s.heap [] hP hD0.self va_S.rf (Nat.le_refl _) _ hl
theorem wg_SW {own : String} {idx ny : Nat} {y : MethodName} {cy : ByteArray} {ret : Option FieldType} {hh : List (Nat × Nat × Nat × Nat)} (h1 : Cond.methodLink own idx y ∈ WG) (h2 : Cond.static y ∈ WG) (h4 : Cond.initialized y.cls ∈ WG) (h5 : Cond.codeWith y cy ny ret hh ∈ WG) : GoodIn WG (va_wsS own idx y (Cond.codeWith y cy ny ret hh :: WG)) :=
  wg_in (wg_cons h1 (wg_cons h2 (wg_cons h4 (wg_cons h5 (fun _ h => h)))))
section GLAW
variable {p : Program} {l : Launch} {e : Env} {R : Room} {s : State} {m : MethodId} {args : Array Value} {below : List Frame} {meth : Method} {c : Code} {D : va_G} {k : Nat → ClassId} {A : Nat → Prop} {cc : ByteArray} {own : String} {nL : Nat} {Q : State → Prop} {ws : va_W} {lv : List (Nat × Value)} {cells slots g pc : Nat} {st : List Value}
theorem g_callSW (C : Cx p l s m args c D k A cc own nL) {y : MethodName} {cy : ByteArray} {ny idx : Nat} {ret : Option FieldType} {fr lo b mc ms gr : Nat} {As : List Value} {w0 wr : va_W} {post : Option Value → va_W → Prop} {hh : List (Nat × Nat × Nat × Nat)} {nA : Nat} (hAs : As.length = nA) (hM : CMW l D k y cy ny ret hh fr lo As w0 post mc ms gr) (h1 : Cond.methodLink own idx y ∈ WG) (h2 : Cond.static y ∈ WG) (h4 : Cond.initialized y.cls ∈ WG) (h5 : Cond.codeWith y cy ny ret hh ∈ WG) (hd : y.cls ≠ "java/lang/invoke/MethodHandle" ∧ y.cls ≠ "java/lang/invoke/VarHandle" ∧ (parseMethodDescriptor y.desc).map (fun d => d.parameters.length) = some nA) (hdg : decode cc pc = .ok (.invokestatic idx, 3)) (hR : fr + 1 ≤ R.frames ∧ 8 + (ny + 11) + lo ≤ R.locals) (isC isR : List Nat) (hC : isC.map (fun i => ws[i]?) = w0.map some) (hRr : isR.map (fun i => ws[i]?) = wr.map some) (hn : va_nd isR = true) (hnc : va_nd isC = true) (hdis : ∀ i ∈ isR, i ∉ isC) (hcat : (st.map fun v => v.category).sum ≤ 8) (hf : cells + mc ≤ R.cells ∧ slots + ms ≤ R.slots) (kk : ∀ (rv : Option Value) (w1 : va_W), post rv w1 → G p l e R s m args below meth c D nL A Q (wr ++ w1) lv (cells + mc) (slots + ms) (g + gr) (pc + 3) (rv.toList ++ st)) : G p l e R s m args below meth c D nL A Q ws lv cells slots g pc (As.reverse ++ st) := by
  intro H locs hP hD hS hZ ls hl
  have hTs := C.2.2.2.2.1
  have hPc := hP.sub (ws' := w0) isC (sub_of hC)
  have hDc := hD.sub (ws' := w0) isC hnc hC
  have hFc := va_free (wc := w0) hD hS C.2.2.2.2.2.2.1 isC hC
  exact g_done C isC isR hC hRr hn hnc hdis hP hD hS hZ hl hFc (vx_runSW (As := As) (rest := st) ⟨C.1, C.2.1, C.2.2.1, C.2.2.2.1, hTs⟩ (hM H.size) (vx_cwSW nA hTs (wg_SW h1 h2 h4 h5) rfl rfl rfl hd hR) ⟨(fun a U g9 mk q => ⟨q.1, q.2.1, q.2.2.1, va_K.moved (u := U) (U := U.calling g9 mk a) (Vm.Alike.refl U.vm) q.2.2.2.1, q.2.2.2.2.1, NE.same (u := U) (U := U.calling g9 mk a) rfl rfl q.2.2.2.2.2⟩), (fun U hU hW => ⟨rfl, by rw [hU], by rw [hU]; exact hPc, va_K.moved hW.alike C.2.2.2.2.2.1, hDc.weaken (fun _ _ _ _ => trivial), NE.warm hW hU hS hFc C.2.2.2.2.2.2.2⟩)⟩ rfl hAs hl.1 rfl (lv_room hcat) hdg hf) (fun _ => rfl) kk
theorem g_last_n (C : Cx p l s m args c D k A cc own nL) {a n j : Nat} {f : Nat → Int64} (q0 : Nat) (ws' : va_W) {i : Int32} {x : Int64} (ha : ws[q0]? = some (a, aJ k n f)) (hj : j < n) (hn : n < 2 ^ 31) (hi : i = nI j) (hw : ws.set q0 (a, aJ k n (vp_updL f j x)) = ws') (hdg : decode cc pc = .ok (.lastore, 1)) (kk : G p l e R s m args below meth c D nL A Q ws' lv cells slots g (pc + 1) st) : G p l e R s m args below meth c D nL A Q ws lv cells slots g pc (.long x :: .int i :: .ref a :: st) := by
  subst hi
  subst hw
  have hcl : (nI j).toNatClampNeg = j := nI_clamp (by omega)
  intro H locs hP hD hS hZ ls hl
  refine va_last C.1 C.2.1 C.2.2.2.2.2.1 hP hD (S_rf hS) q0 1 ha rfl (vp_in_nI hj hn) hdg (fun H1 locs1 hP1 hD1 hS1 => ?_)
  rw [hcl] at hP1 hD1
  exact kk H1 locs1 hP1 hD1 (S_tr hS hS1) (Nat.le_trans hZ hS1.1) ls hl
theorem g_lald_n (C : Cx p l s m args c D k A cc own nL) {a n j : Nat} {f : Nat → Int64} (q0 : Nat) {i : Int32} (ha : ws[q0]? = some (a, aJ k n f)) (hj : j < n) (hn : n < 2 ^ 31) (hi : i = nI j) (hdg : decode cc pc = .ok (.laload, 1)) (kk : G p l e R s m args below meth c D nL A Q ws lv cells slots g (pc + 1) (.long (f j) :: st)) : G p l e R s m args below meth c D nL A Q ws lv cells slots g pc (.int i :: .ref a :: st) := by
  subst hi
  intro H locs hP hD hS hZ ls hl
  have h1 := kk H locs hP hD hS hZ ls hl
  refine va_lald C.1 C.2.1 C.2.2.2.2.2.1 hP q0 1 ha rfl (vp_in_nI hj hn) hdg ?_
  rw [nI_clamp (by omega)]
  exact h1
theorem g_lcmp (C : Cx p l s m args c D k A cc own nL) {x y : Int64} (hdg : decode cc pc = .ok (.lcmp, 1)) (kk : G p l e R s m args below meth c D nL A Q ws lv cells slots g (pc + 1) (.int (lg_cmp x y) :: st)) : G p l e R s m args below meth c D nL A Q ws lv cells slots g pc (.long y :: .long x :: st) := fun H locs hP hD hS hZ ls hl => W.lcmp C.1 C.2.1 hdg (kk H locs hP hD hS hZ ls hl)
theorem lg_cmp_e (x : Int64) : lg_cmp x x = 0 := by unfold lg_cmp; simp
theorem g_table (C : Cx p l s m args c D k A cc own nL) {dflt lo hi : Int} {offs : Array Int} {len : Nat} {x : Int32} {off : Int} (tgt : Nat) (hdg : decode cc pc = .ok (.tableswitch dflt lo hi offs, len)) (h1 : ¬ x.toInt < lo) (h2 : ¬ hi < x.toInt) (ho : offs[(x.toInt - lo).toNat]? = some off) (ht : (pc : Int) + off = (tgt : Int)) (kk : G p l e R s m args below meth c D nL A Q ws lv cells slots g tgt st) : G p l e R s m args below meth c D nL A Q ws lv cells slots g pc (.int x :: st) := fun H locs hP hD hS hZ ls hl => lv_tableIn C.1 C.2.1 hdg h1 h2 ho ht (kk H locs hP hD hS hZ ls hl)
theorem g_sld (C : Cx p l s m args c D k A cc own nL) {b L' j : Nat} {xs : Nat → Int32} (hX : va_X b L' xs s s.heap) (hbl : b < s.heap.size) (hbA : ¬ A b) {i : Int32} (hj : j < L') (hL : L' < 2 ^ 31) (hi : i = nI j) (hdg : decode cc pc = .ok (.iaload, 1)) (kk : G p l e R s m args below meth c D nL A Q ws lv cells slots g (pc + 1) (.int (xs j) :: st)) : G p l e R s m args below meth c D nL A Q ws lv cells slots g pc (.int i :: .ref b :: st) := by
  subst hi
  intro H locs hP hD hS hZ ls hl
  have h1 := kk H locs hP hD hS hZ ls hl
  refine va_sld C.1 C.2.1 hX hbl hbA hS (vp_in_nI hj hL) hdg ?_
  rw [nI_clamp (by omega)]
  exact h1
theorem g_slen (C : Cx p l s m args c D k A cc own nL) {b L' : Nat} {xs : Nat → Int32} (hX : va_X b L' xs s s.heap) (hbl : b < s.heap.size) (hbA : ¬ A b) (hdg : decode cc pc = .ok (.arraylength, 1)) (kk : G p l e R s m args below meth c D nL A Q ws lv cells slots g (pc + 1) (.int (nI L') :: st)) : G p l e R s m args below meth c D nL A Q ws lv cells slots g pc (.ref b :: st) := fun H locs hP hD hS hZ ls hl => va_slen C.1 C.2.1 hX hbl hbA hS hdg (kk H locs hP hD hS hZ ls hl)
end GLAW
