abbrev RXL : String := RL
abbrev TXL : u_T := TL
abbrev tyXL : Nat → FieldType := tyL
theorem tyXL_ok : ∀ k, k < 9 → parseFieldDescriptor (TXL k).2.2.1 = some (tyXL k) := tyL_ok
theorem nmXL : ∀ a, a < 9 → ∀ b, b < 9 → a ≠ b → (TXL a).2.1 ≠ (TXL b).2.1 := nmL
/-- the law's edges: rows of a table -/
def EN (E : Nat → Nat → Nat) (a b : Nat) : Int32 := nI (E a b)
def eU (T : Nat → Nat → Int32) (v j : Nat) (x : Int32) : Nat → Nat → Int32 := fun a => if a = v then upd (T v) j x else T a
/-- as CM, of a static method that gets the script -/
def CMS (l : Launch) (D : va_G) (k : Nat → ClassId) (b L : Nat) (xs : Nat → Int32) (y : MethodName) (cy : ByteArray) (ny : Nat) (ret : Option FieldType) (fr lo : Nat) (av : List Value) (w0 : va_W) (post : Option Value → va_W → Prop) (mc ms gr : Nat) : Prop :=
  ∀ sz : Nat, Met l y (Cond.code y cy ny ret :: WG) { frames := fr, cells := mc, slots := ms, locals := lo }
    (va_Pc av (fun U => U.heap.size = sz ∧ va_P D vwCl w0 U.heap ∧ va_K D vwCl (tyG k) U ∧ va_D (fun _ => True) w0 ∧ NE l (va_A w0 sz) U ∧ va_X b L xs U U.heap ∧ b < sz ∧ ¬ va_A w0 sz b))
    (fun _ st o t => (∃ (rv : Option Value) (w1 : va_W), o = .returned rv ∧ post rv w1 ∧ va_P D vwCl w1 t.heap ∧ va_D (va_A w0 sz) w1 ∧ sz + gr ≤ t.heap.size) ∧ va_F (va_A w0 sz) st t) mc ms (va_A w0 sz)
theorem CMS.of {l : Launch} {D : va_G} {k : Nat → ClassId} {b L : Nat} {xs : Nat → Int32} {y : MethodName} {cy : ByteArray} {ny : Nat} {ret : Option FieldType} {fr lo : Nat} {av : List Value} {w0 : va_W} {post : Option Value → va_W → Prop} {mc ms gr : Nat} {lv0 : List (Nat × Value)}
    (hy : plainName y.cls = true) (hn : (lg_sl av).length ≤ ny) (hlv : lv_args 0 av = lv0)
    (body : ∀ (p : Program) (e : Env) (s : State) (m : MethodId) (below : List Frame) (meth : Method) (c : Code), Cx p l s m av.toArray c D k (va_A w0 s.heap.size) cy y.cls ny → meth.sig.returnType = ret → meth.locks = false → meth.name = y.name → l.admits e → va_X b L xs s s.heap → b < s.heap.size → ¬ va_A w0 s.heap.size b →
      G p l e { frames := fr, cells := mc, slots := ms, locals := lo } s m av.toArray below meth c D ny (va_A w0 s.heap.size) (QM below D av.toArray s w0 post mc ms gr) w0 lv0 0 0 0 0 []) :
    CMS l D k b L xs y cy ny ret fr lo av w0 post mc ms gr := by
  intro sz
  refine Met.ofW (cc := cy) (maxL := ny) (ret := ret) hy rfl ?_
  intro p e s m args below meth c s₁ B hml hv
  obtain ⟨rfl, hsz, hP, hK, hD0, hNF, hX, hbl, hbA⟩ := hv
  subst hsz
  have hts0 := atoms_spec (ws := Cond.code y cy ny ret :: WG) B.pre
  have hown : s.vm.findClass y.cls = some m.cls := findClass_of_methodNamed B.named
  have hA : ∀ q : Nat, s.heap.size ≤ q → va_A w0 s.heap.size q := fun q h => Or.inr h
  have hl := lv_entry av (n := ny) hn
  rw [hlv] at hl
  rw [lg_entry_eq]
  exact body p e s m below meth c ⟨B.exec, B.bytes, hml, hown, fun w hw => hts0 w (List.mem_cons_of_mem _ hw), hK, hA, hNF⟩ B.returns B.notSynchronized (name_of_methodNamed B.named B.method).1 (Stand.of_body B).admits hX hbl hbA s.heap [] hP hD0.self va_S.rf (Nat.le_refl _) _ hl
section GS
variable {p : Program} {l : Launch} {e : Env} {R : Room} {s : State} {m : MethodId} {args : Array Value} {below : List Frame} {meth : Method} {c : Code} {D : va_G} {k : Nat → ClassId} {A : Nat → Prop} {cc : ByteArray} {own : String} {nL : Nat} {Q : State → Prop} {ws : va_W} {lv : List (Nat × Value)} {cells slots g pc : Nat} {st : List Value}
theorem g_callSS (C : Cx p l s m args c D k A cc own nL) {y : MethodName} {cy : ByteArray} {ny idx : Nat} {ret : Option FieldType} {fr lo b L mc ms gr : Nat} {As : List Value} {w0 wr : va_W} {post : Option Value → va_W → Prop} {xs : Nat → Int32} {nA : Nat} (hX : va_X b L xs s s.heap) (hbl : b < s.heap.size) (hbA : ¬ A b) (hAs : As.length = nA) (hM : CMS l D k b L xs y cy ny ret fr lo As w0 post mc ms gr) (h1 : Cond.methodLink own idx y ∈ WG) (h2 : Cond.static y ∈ WG) (h4 : Cond.initialized y.cls ∈ WG) (h5 : Cond.code y cy ny ret ∈ WG) (hd : y.cls ≠ "java/lang/invoke/MethodHandle" ∧ y.cls ≠ "java/lang/invoke/VarHandle" ∧ (parseMethodDescriptor y.desc).map (fun d => d.parameters.length) = some nA) (hdg : decode cc pc = .ok (.invokestatic idx, 3)) (hR : fr + 1 ≤ R.frames ∧ 8 + (ny + 11) + lo ≤ R.locals) (isC isR : List Nat) (hC : isC.map (fun i => ws[i]?) = w0.map some) (hRr : isR.map (fun i => ws[i]?) = wr.map some) (hn : va_nd isR = true) (hnc : va_nd isC = true) (hdis : ∀ i ∈ isR, i ∉ isC) (hcat : (st.map fun v => v.category).sum ≤ 8) (hf : cells + mc ≤ R.cells ∧ slots + ms ≤ R.slots) (kk : ∀ (rv : Option Value) (w1 : va_W), post rv w1 → G p l e R s m args below meth c D nL A Q (wr ++ w1) lv (cells + mc) (slots + ms) (g + gr) (pc + 3) (rv.toList ++ st)) : G p l e R s m args below meth c D nL A Q ws lv cells slots g pc (As.reverse ++ st) := by
  intro H locs hP hD hS hZ ls hl
  have hTs := C.2.2.2.2.1
  have hPc := hP.sub (ws' := w0) isC (sub_of hC)
  have hDc := hD.sub (ws' := w0) isC hnc hC
  have hFc := va_free (wc := w0) hD hS C.2.2.2.2.2.2.1 isC hC
  exact g_done C isC isR hC hRr hn hnc hdis hP hD hS hZ hl hFc (va_runS (As := As) (rest := st) ⟨C.1, C.2.1, C.2.2.1, C.2.2.2.1, hTs⟩ (hM H.size) (va_cwS nA hTs (wg_in (wg_cons h1 (wg_cons h2 (wg_cons h4 (wg_cons h5 (fun _ h => h)))))) rfl rfl rfl hd hR) ⟨(fun a U g9 mk q => ⟨q.1, q.2.1, q.2.2.1, va_K.moved (u := U) (U := U.calling g9 mk a) (Vm.Alike.refl U.vm) q.2.2.2.1, q.2.2.2.2.1, NE.same (u := U) (U := U.calling g9 mk a) rfl rfl q.2.2.2.2.2.1, va_X.moved (u := U) (U := U.calling g9 mk a) (Vm.Alike.refl U.vm) q.2.2.2.2.2.2.1, q.2.2.2.2.2.2.2⟩), (fun U hU hW => ⟨rfl, by rw [hU], by rw [hU]; exact hPc, va_K.moved hW.alike C.2.2.2.2.2.1, hDc.weaken (fun _ _ _ _ => trivial), NE.warm hW hU hS hFc C.2.2.2.2.2.2.2, va_X.moved hW.alike (by rw [hU]; exact hX.kept (hS.2.1 _ hbl hbA)), Nat.lt_of_lt_of_le hbl hS.1, fun q => hbA (hFc _ q)⟩)⟩ rfl hAs hl.1 rfl (lv_room hcat) hdg hf) (fun _ => rfl) kk
theorem g_anewA (C : Cx p l s m args c D k A cc own nL) {idx : Nat} (N : Nat) {n : Int32} (hlink : Cond.classLink own idx "[I" ∈ WG) (hn : ¬ n < 0) (hN : n.toNatClampNeg = N) (hb : N * 4 ≤ 536870912) (hcells : cells + 1 ≤ R.cells) (hslots : slots + N ≤ R.slots) (hdg : decode cc pc = .ok (.anewarray idx, 3))
    (kk : ∀ q : Nat, G p l e R s m args below meth c D nL A Q (ws ++ [(q, aR k 3 N (fun _ => none))]) lv (cells + 1) (slots + N) (g + 1) (pc + 3) (.ref q :: st)) : G p l e R s m args below meth c D nL A Q ws lv cells slots g pc (.int n :: st) := by
  intro H locs hP hD hS hZ ls hl
  subst hN
  have hTs := C.2.2.2.2.1
  refine W.anewA (t := .int) C.1 C.2.1 C.2.2.2.1 (hTs _ hlink) (va_AOA.use C.2.2.2.2.2.2.2.1.2.1) rfl hdg rfl hn hb hcells hslots fun cA kA comp f1 f2 f3 f4 => ?_
  have hcc : cA = k 3 := Option.some.inj (f1.symm.trans (fc_II C))
  subst hcc
  generalize hH1 : H.push ({ cls := k 3, slots := Array.replicate n.toNatClampNeg .null, vm := .none } : Cell) = H1
  have z1 : H1.size = H.size + 1 := by rw [← hH1, Array.size_push]
  have e1 : H1[H.size]? = some (arrV (k 3) n.toNatClampNeg (fun _ => .null)) := by rw [← hH1, Array.getElem?_push_size, ← arrV_new]
  have o1 : ∀ q : Nat, q < H.size → H1[q]? = H[q]? := fun q hq => by rw [← hH1, Array.getElem?_push, if_neg (Nat.ne_of_lt hq)]
  have hk : ∀ (i : Nat) (x : Nat × va_E), ws[i]? = some x → H1[x.1]? = H[x.1]? := fun i x hx => o1 x.1 ((hP i x hx).lt)
  refine kk H.size H1 locs ((hP.kept hk).app (fun i x hx => ?_)) (hD.push hP rfl (C.2.2.2.2.2.2.1 _ hS.1)) ⟨Nat.le_trans hS.1 (by omega), fun x h1 h2 => (o1 x (Nat.lt_of_lt_of_le h1 hS.1)).trans (hS.2.1 x h1 h2), hS.2.2⟩ (by omega) ls hl
  have hz : i < 1 := (List.getElem?_eq_some_iff.mp hx).1
  rw [show i = 0 by omega] at hx
  cases hx
  show H1[H.size]? = some (vp_cell _ _)
  rw [vp_cell_q]
  exact e1
theorem asg_self {vm : Vm} (cA : ClassId) : vm.assignable cA cA = true := by
  unfold Vm.assignable
  show (cA == cA || _) = true
  rw [beq_self_eq_true, Bool.true_or]
theorem g_aastA (C : Cx p l s m args c D k A cc own nL) {a v n n2 j : Nat} {f : Nat → Option Nat} {f2 : Nat → Int32} (q0 qk : Nat) (ws' : va_W) {i : Int32} (ha : ws[q0]? = some (a, aR k 3 n f)) (hv : ws[qk]? = some (v, aI k n2 f2)) (hj : j < n) (hn : n < 2 ^ 31) (hi : i = nI j) (hw : ws.set q0 (a, aR k 3 n (va_up f j (some v))) = ws') (hdg : decode cc pc = .ok (.aastore, 1)) (kk : G p l e R s m args below meth c D nL A Q ws' lv cells slots g (pc + 1) st) : G p l e R s m args below meth c D nL A Q ws lv cells slots g pc (.ref v :: .int i :: .ref a :: st) := by
  subst hi
  subst hw
  have hcl : (nI j).toNatClampNeg = j := nI_clamp (by omega)
  intro H locs hP hD hS hZ ls hl
  have hin := vp_in_nI hj hn
  obtain ⟨comp, c3, k3, a1, a2, a3, a4, a5⟩ := arrayOverA_spec (va_AOA.use (A := #[]) C.2.2.2.2.2.2.2.1.2.1)
  have e3 : c3 = k 3 := Option.some.inj (a5.symm.trans (fc_II C))
  have e0 : comp = k 0 := Option.some.inj (a1.symm.trans (fc_I C))
  subst e3 e0
  obtain ⟨-, k0, h0, -⟩ := (C.2.2.2.2.2.1.2 0 (k 0, .int) rfl).1 n2 (fun j => Value.int (f2 j))
  refine W.aast C.1 C.2.1 (hP q0 _ ha) (fun q h => by cases h) (fun h => by cases h) a3 a4 rfl h0 ⟨fun q => hin (Or.inl q), by show _ < (arrV _ _ _).slots.size; rw [arrV_size, hcl]; exact hj⟩ (hP qk _ hv) (fun q h => by cases h) h0 (asg_self _) rfl rfl hdg fun H1 e z oq => ?_
  refine kk H1 _ (hP.set hD ha ?_ oq) (hD.set ha) (S_tr hS ((S_rf hS).put z oq (hD.2 q0 _ ha))) (by rw [z]; exact hZ) ls hl
  show H1[a]? = some (vp_cell _ _)
  rw [e, hcl]
  rw [vp_cell_q, vp_cell_q, arrV_store]
  congr 2
  funext q
  by_cases hq : q = j
  · subst hq
    simp [updV, va_up, va_rf]
  · simp [updV, va_up, hq]
end GS
