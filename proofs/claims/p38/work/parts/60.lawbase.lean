abbrev RXL : String := RL
abbrev TXL : u_T := TL
abbrev tyXL : Nat → FieldType := tyL
theorem tyXL_ok : ∀ k, k < 9 → parseFieldDescriptor (TXL k).2.2.1 = some (tyXL k) := tyL_ok
theorem nmXL : ∀ a, a < 9 → ∀ b, b < 9 → a ≠ b → (TXL a).2.1 ≠ (TXL b).2.1 := nmL
/-- the law's edges: rows of a table -/
def EN (E : Nat → Nat → Nat) (a b : Nat) : Int32 := nI (E a b)
def eU (T : Nat → Nat → Int32) (v j : Nat) (x : Int32) : Nat → Nat → Int32 := fun a => if a = v then upd (T v) j x else T a
/-- as CM, of a static method that gets the script -/
def CMS (l : Launch) (D : va_G) (k : Nat → ClassId) (b L : Nat) (xs : Nat → Int32) (y : MethodName) (cy : ByteArray) (ny : Nat) (ret : Option FieldType) (fr lo : Nat) (av : List Value) (w0 : va_W) (post : Option Value → va_W → Prop) (mc ms gr : Nat) : Prop :=
  ∀ sz : Nat, Met l y (Cond.code y cy ny ret :: WG) { frames := fr, cells := mc, slots := ms, locals := lo }
    (va_Pc av (fun U => U.heap.size = sz ∧ va_P D vwCl w0 U.heap ∧ va_K D vwCl (tyG k) U ∧ va_D (fun _ => True) w0 ∧ NE l (va_A w0 sz) U ∧ va_X b L xs U U.heap ∧ b < sz ∧ ¬ va_A w0 sz b))
    (fun _ st o t => (∃ (rv : Option Value) (w1 : va_W), o = .returned rv ∧ post rv w1 ∧ va_P D vwCl w1 t.heap ∧ va_D (va_A w0 sz) w1 ∧ sz + gr ≤ t.heap.size) ∧ va_F (va_A w0 sz) st t) mc ms (va_A w0 sz)
theorem CMS.of {l : Launch} {D : va_G} {k : Nat → ClassId} {b L : Nat} {xs : Nat → Int32} {y : MethodName} {cy : ByteArray} {ny : Nat} {ret : Option FieldType} {fr lo : Nat} {av : List Value} {w0 : va_W} {post : Option Value → va_W → Prop} {mc ms gr : Nat} {lv0 : List (Nat × Value)}
    (hy : plainName y.cls = true) (hn : (lg_sl av).length ≤ ny) (hlv : lv_args 0 av = lv0)
    (body : ∀ (p : Program) (e : Env) (s : State) (m : MethodId) (below : List Frame) (meth : Method) (c : Code), Cx p l s m av.toArray c D k (va_A w0 s.heap.size) cy y.cls ny → meth.sig.returnType = ret → meth.locks = false → meth.name = y.name → l.admits e → va_X b L xs s s.heap → b < s.heap.size → ¬ va_A w0 s.heap.size b →
      G p l e { frames := fr, cells := mc, slots := ms, locals := lo } s m av.toArray below meth c D ny (va_A w0 s.heap.size) (QM below D av.toArray s w0 post mc ms gr) w0 lv0 0 0 0 0 []) :
    CMS l D k b L xs y cy ny ret fr lo av w0 post mc ms gr := by
  intro sz
  refine Met.ofW (cc := cy) (maxL := ny) (ret := ret) hy rfl ?_
  intro p e s m args below meth c s₁ B hml hv
  obtain ⟨rfl, hsz, hP, hK, hD0, hNF, hX, hbl, hbA⟩ := hv
  subst hsz
  have hts0 := atoms_spec (ws := Cond.code y cy ny ret :: WG) B.pre
  have hown : s.vm.findClass y.cls = some m.cls := findClass_of_methodNamed B.named
  have hA : ∀ q : Nat, s.heap.size ≤ q → va_A w0 s.heap.size q := fun q h => Or.inr h
  have hl := lv_entry av (n := ny) hn
  rw [hlv] at hl
  rw [lg_entry_eq]
  exact body p e s m below meth c ⟨B.exec, B.bytes, hml, hown, fun w hw => hts0 w (List.mem_cons_of_mem _ hw), hK, hA, hNF⟩ B.returns B.notSynchronized (name_of_methodNamed B.named B.method).1 (Stand.of_body B).admits hX hbl hbA s.heap [] hP hD0.self va_S.rf (Nat.le_refl _) _ hl
section GS
variable {p : Program} {l : Launch} {e : Env} {R : Room} {s : State} {m : MethodId} {args : Array Value} {below : List Frame} {meth : Method} {c : Code} {D : va_G} {k : Nat → ClassId} {A : Nat → Prop} {cc : ByteArray} {own : String} {nL : Nat} {Q : State → Prop} {ws : va_W} {lv : List (Nat × Value)} {cells slots g pc : Nat} {st : List Value}
theorem g_callSS (C : Cx p l s m args c D k A cc own nL) {y : MethodName} {cy : ByteArray} {ny idx : Nat} {ret : Option FieldType} {fr lo b L mc ms gr : Nat} {As : List Value} {w0 wr : va_W} {post : Option Value → va_W → Prop} {xs : Nat → Int32} {nA : Nat} (hX : va_X b L xs s s.heap) (hbl : b < s.heap.size) (hbA : ¬ A b) (hAs : As.length = nA) (hM : CMS l D k b L xs y cy ny ret fr lo As w0 post mc ms gr) (h1 : Cond.methodLink own idx y ∈ WG) (h2 : Cond.static y ∈ WG) (h4 : Cond.initialized y.cls ∈ WG) (h5 : Cond.code y cy ny ret ∈ WG) (hd : y.cls ≠ "java/lang/invoke/MethodHandle" ∧ y.cls ≠ "java/lang/invoke/VarHandle" ∧ (parseMethodDescriptor y.desc).map (fun d => d.parameters.length) = some nA) (hdg : decode cc pc = .ok (.invokestatic idx, 3)) (hR : fr + 1 ≤ R.frames ∧ 8 + (ny + 11) + lo ≤ R.locals) (isC isR : List Nat) (hC : isC.map (fun i => ws[i]?) = w0.map some) (hRr : isR.map (fun i => ws[i]?) = wr.map some) (hn : va_nd isR = true) (hnc : va_nd isC = true) (hdis : ∀ i ∈ isR, i ∉ isC) (hcat : (st.map fun v => v.category).sum ≤ 8) (hf : cells + mc ≤ R.cells ∧ slots + ms ≤ R.slots) (kk : ∀ (rv : Option Value) (w1 : va_W), post rv w1 → G p l e R s m args below meth c D nL A Q (wr ++ w1) lv (cells + mc) (slots + ms) (g + gr) (pc + 3) (rv.toList ++ st)) : G p l e R s m args below meth c D nL A Q ws lv cells slots g pc (As.reverse ++ st) := by
  intro H locs hP hD hS hZ ls hl
  have hTs := C.2.2.2.2.1
  have hPc := hP.sub (ws' := w0) isC (sub_of hC)
  have hDc := hD.sub (ws' := w0) isC hnc hC
  have hFc := va_free (wc := w0) hD hS C.2.2.2.2.2.2.1 isC hC
  exact g_done C isC isR hC hRr hn hnc hdis hP hD hS hZ hl hFc (va_runS (As := As) (rest := st) ⟨C.1, C.2.1, C.2.2.1, C.2.2.2.1, hTs⟩ (hM H.size) (va_cwS nA hTs (wg_in (wg_cons h1 (wg_cons h2 (wg_cons h4 (wg_cons h5 (fun _ h => h)))))) rfl rfl rfl hd hR) ⟨(fun a U g9 mk q => ⟨q.1, q.2.1, q.2.2.1, va_K.moved (u := U) (U := U.calling g9 mk a) (Vm.Alike.refl U.vm) q.2.2.2.1, q.2.2.2.2.1, NE.same (u := U) (U := U.calling g9 mk a) rfl rfl q.2.2.2.2.2.1, va_X.moved (u := U) (U := U.calling g9 mk a) (Vm.Alike.refl U.vm) q.2.2.2.2.2.2.1, q.2.2.2.2.2.2.2⟩), (fun U hU hW => ⟨rfl, by rw [hU], by rw [hU]; exact hPc, va_K.moved hW.alike C.2.2.2.2.2.1, hDc.weaken (fun _ _ _ _ => trivial), NE.warm hW hU hS hFc C.2.2.2.2.2.2.2, va_X.moved hW.alike (by rw [hU]; exact hX.kept (hS.2.1 _ hbl hbA)), Nat.lt_of_lt_of_le hbl hS.1, fun q => hbA (hFc _ q)⟩)⟩ rfl hAs hl.1 rfl (lv_room hcat) hdg hf) (fun _ => rfl) kk
end GS
