/-! THE CLAIM IS FALSE, BY THE ROOM: of a start whose script is scr (1332 ints), on a machine roomier than the least one, the law ends with more than 640000 new cells; the claim lets 621792 come. -/
theorem inJ0 : ∀ w ∈ u_ws RJ0 TJ0 2, w ∈ lw_tbl := by decide +kernel
theorem inJ13 : ∀ w ∈ u_ws RJ13 TJ13 1, w ∈ lw_tbl := by decide +kernel
theorem inJx0 : ∀ w ∈ u_ws RJx00060 TJx00060 6, w ∈ lw_tbl := by decide +kernel
theorem inJx4 : ∀ w ∈ u_ws RJx4a65c TJx4a65c 3, w ∈ lw_tbl := by decide +kernel
theorem wg_tbl {w : Cond} (h : w ∈ WG) : w ∈ lw_tbl := (List.mem_filter.mp h).1
theorem cls_known {args : Array Value} {s : State} (hts : ∀ w ∈ lw_tbl, w.before args s = true) : ∃ D : Nat → ClassId × (Nat → Nat), ∀ (c : Nat) (q : vw_C), vwCl[c]? = some q → u_Kn s q.1 q.2.1 q.2.2 (D c).1 (D c).2 := by
  have hin : ∀ {ws : List Cond}, (∀ w ∈ ws, w ∈ WG) → ∀ w ∈ ws, w ∈ lw_tbl := fun h w hw => wg_tbl (h w hw)
  have key : ∀ c : Nat, ∃ y : ClassId × (Nat → Nat), ∀ q : vw_C, vwCl[c]? = some q → u_Kn s q.1 q.2.1 q.2.2 y.1 y.2 := by
    have one : ∀ {C : String} {T : u_T} {N n : Nat}, (∀ w ∈ u_ws C T N, w ∈ lw_tbl) → Cond.instantiable C n ∈ lw_tbl → ∃ y : ClassId × (Nat → Nat), ∀ q : vw_C, some ((C, T, N) : vw_C) = some q → u_Kn s q.1 q.2.1 q.2.2 y.1 y.2 := by
      intro C T N n h1 h2
      obtain ⟨cC, iS, h⟩ := u_known (C := C) (T := T) (N := N) (n := n) hts h1 (hts _ h2)
      exact ⟨(cC, iS), fun q hq => by cases hq; exact h⟩
    intro c
    match c with
    | 0 => exact one (n := 4) inJ0 (by decide +kernel)
    | 1 => exact one (n := 1) inJ13 (by decide +kernel)
    | 2 => exact one (n := 6) inJx0 (by decide +kernel)
    | 3 => exact one (n := 3) inJx4 (by decide +kernel)
    | 4 => exact one (n := 7) (hin inX0) (by decide +kernel)
    | 5 => exact one (n := 2) (hin inX1) (by decide +kernel)
    | 6 => exact one (n := 4) (hin inX2) (by decide +kernel)
    | 7 => exact one (n := 4) (hin inX3) (by decide +kernel)
    | 8 => exact one (n := 3) (hin inX4) (by decide +kernel)
    | 9 => exact one (n := 1) (hin inX5) (by decide +kernel)
    | 10 => exact one (n := 4) (hin inX6) (by decide +kernel)
    | 11 => exact one (n := 3) (hin inX7) (by decide +kernel)
    | 12 => exact one (n := 1) (hin inX8) (by decide +kernel)
    | 13 => exact one (n := 1) (hin inX9) (by decide +kernel)
    | 14 => exact one (n := 11) (hin inX10) (by decide +kernel)
    | 15 => exact one (n := 12) (hin inX11) (by decide +kernel)
    | c + 16 => exact ⟨(0, fun _ => 0), fun q hq => by simp [vwCl] at hq⟩
  exact Classical.axiomOfChoice key
theorem arr_known {args : Array Value} {s : State} {ty : FieldType} (h : (Cond.arrayClass ty).before args s = true) (hra : ∀ cA, va_RA s cA ty = (s.vm.findClass ("[" ++ ty.toString) = some cA)) : ∃ cA : ClassId, ArrOfT s cA ty ∧ va_RA s cA ty := by
  obtain ⟨c, k, x, h1, h2, h3⟩ := Cond.arrayClass_spec h
  exact ⟨c, fun n z => ⟨(fun q hq => by cases hq), k, h2, x, h3⟩, by rw [hra]; exact h1⟩
theorem arr_known2 {args : Array Value} {s : State} {ty : FieldType} (h : (Cond.arrayOver (.array ty)).before args s = true) : ∃ cA : ClassId, ArrOfT s cA (.array ty) ∧ va_RA s cA (.array ty) := by
  obtain ⟨comp, c, k, h1, h2, h3, h4, h5⟩ := arrayOver_specB h
  exact ⟨c, fun n z => ⟨(fun q hq => by cases hq), k, h3, comp, h4⟩, h5⟩
def pL (b : Addr) (xs : List Int32) (args : Array Value) (s : State) : Prop := args = #[.ref b] ∧ s.IntsAt b xs ∧ xs.length = 1332 ∧ ∀ j, j < 1332 → xs.getD j 0 = scr j
theorem lw_w (i : Nat) {w : Cond} (h : tables_1[i]? = some w) : w ∈ lw_tbl := List.mem_append_right _ (List.mem_of_getElem? h)
set_option maxHeartbeats 1000000 in
set_option maxRecDepth 100000 in
/-- the law over the script, on the roomier machine: it ends, and more than 640000 cells are new -/
theorem law_met (l : Launch) (b : Addr) (xs : List Int32) : MetFree l x (headSpec (Jvm.Cond.code x code maxLocals ret :: tables_1) roomL) (pL b xs) (fun _ _ _ _ _ => True) (fun _ s _ t => s.heap.size + 640000 ≤ t.heap.size) := by
  refine MetFree.of_bodyS (code := code) (maxLocals := maxLocals) (ret := ret) (by decide) ?_ ?_
  · intro args s m h hn
    obtain ⟨meth, c, h1, h2, h3, h4, h5, h6, -, -⟩ := Cond.code_spec hn (atoms_spec (ws := Jvm.Cond.code x code maxLocals ret :: tables_1) h _ List.mem_cons_self)
    exact ⟨meth, c, h1, h2, h3, h4, h5, h6⟩
  · intro p e s m args below meth c s₁ B hml0 hP _
    obtain ⟨rfl, hx, hbd, hsc⟩ := hP
    obtain ⟨sc, harrAt, hlist, hof, hsmall⟩ := hx
    obtain ⟨hcb, hkn, -, -⟩ := State.arrayAt?_spec harrAt
    have hown : s.vm.findClass RL = some m.cls := findClass_of_methodNamed B.named
    have hts0 : ∀ c ∈ (Jvm.Cond.code x code maxLocals ret :: tables_1), c.before #[Value.ref b] s = true := atoms_spec (ws := Jvm.Cond.code x code maxLocals ret :: tables_1) B.pre
    have hts : ∀ w ∈ lw_tbl, w.before #[Value.ref b] s = true := k2_hts_sels lw_privs (fun w hw => hts0 w (List.mem_cons_of_mem _ hw)) lw_privs_ok
    have hml : c.maxLocals = 9 := B.maxLocals_eq (hts0 _ List.mem_cons_self)
    have X₀ : Stand p l e roomL s m #[Value.ref b] below meth c s₁ [] 0 0 := Stand.of_body B
    have hh0 : s₁.heap = s.heap := by rw [B.state]; rfl
    have hsz : sc.slots.size = xs.length := by rw [← Array.length_toList, hlist, List.length_map]
    have hval : ∀ j : Nat, j < 1332 → sc.slots[j]? = some (.int (xs.getD j 0)) := fun j hj => by
      rw [← Array.getElem?_toList, hlist]
      have hj2 : j < xs.length := by omega
      simp [hj2]
    have hbl : b < s.heap.size := (Array.getElem?_eq_some_iff.mp hcb).1
    have hX : va_X b 1332 (fun j => xs.getD j 0) s s.heap := ⟨sc, hcb, hof, hkn, by rw [hsz, hbd], hval⟩
    obtain ⟨D0, hD0⟩ := cls_known hts
    obtain ⟨k0, hk0⟩ := arr_known (ty := .int) (hts _ (by decide +kernel)) (fun _ => rfl)
    obtain ⟨k1, hk1⟩ := arr_known (ty := .long) (hts _ (by decide +kernel)) (fun _ => rfl)
    obtain ⟨k2, hk2⟩ := arr_known (ty := .boolean) (hts _ (by decide +kernel)) (fun _ => rfl)
    obtain ⟨k5, hk5⟩ := arr_known (ty := .double) (hts _ (by decide +kernel)) (fun _ => rfl)
    obtain ⟨k3, hk3⟩ := arr_known2 (ty := .int) (hts _ (by decide +kernel))
    obtain ⟨k4, hk4⟩ := arr_known2 (ty := .long) (hts _ (by decide +kernel))
    let k : Nat → ClassId := fun i => if i = 0 then k0 else if i = 1 then k1 else if i = 2 then k2 else if i = 3 then k3 else if i = 4 then k4 else k5
    have hK : va_K (fun c => (D0 c).1, fun c => (D0 c).2) vwCl (tyG k) s := by
      refine ⟨hD0, fun i q hq => ?_⟩
      match i, hq with
      | 0, hq => cases hq; exact hk0
      | 1, hq => cases hq; exact hk1
      | 2, hq => cases hq; exact hk2
      | 3, hq => cases hq; exact hk3
      | 4, hq => cases hq; exact hk4
      | 5, hq => cases hq; exact hk5
      | i + 6, hq => simp [tyG] at hq
    have hNF : NF s := by
      refine ⟨fun q hq => ?_, ?_, ?_, ?_⟩
      · refine va_Nw.of rfl (hts _ ?_)
        have hall : ∀ q ∈ nestW, Cond.methodLinkNest q.1 q.2.1 q.2.2.1 q.2.2.2 ∈ lw_tbl := by decide +kernel
        exact hall q hq
      · exact hts (.arrayOver (.array .int)) (by decide +kernel)
      · exact hts (.arrayOver (.array .long)) (by decide +kernel)
      · exact va_Nw.of rfl (hts (.castable "[I" "java/lang/Cloneable") (by decide +kernel))
    have hA : ∀ q, s.heap.size ≤ q → va_A [] s.heap.size q := fun q h => Or.inr h
    have C : Cx p s m #[Value.ref b] c (fun c => (D0 c).1, fun c => (D0 c).2) k (va_A [] s.heap.size) cL_law RL 9 := ⟨B.exec, B.bytes, hml, hown, wg_hts hts, hK, hA, hNF⟩
    have hl := lv_entry ([.ref b]) (n := 9) (Nat.le_of_ble_eq_true rfl)
    have hl : lv_has ((lg_sl ([.ref b]) ++ List.replicate (9 - (lg_sl ([.ref b])).length) Slot.unset).toArray) 9 [(0, .ref b)] := hl
    have g0 := law_begin (p := p) (l := l) (e := e) (m := m) (below := below) (meth := meth) C B.returns B.notSynchronized hX hbl (na_b hbl) hsc s.heap [] (fun i q hq => by simp at hq) ⟨fun i j p q hq => by simp at hq, fun i q hq => by simp at hq⟩ va_S.rf (Nat.le_refl _) _ hl
    have K : W p l e roomL s m #[Value.ref b] below meth c s₁.heap [] 0 0 (QL below (fun c => (D0 c).1, fun c => (D0 c).2) b s) (entryFrame m ([Value.ref b] : List Value).toArray 9) := by
      rw [hh0, lg_entry_eq]
      exact g0
    obtain ⟨t, a1, o, b1, b2, ⟨⟨rv, w1, q1, q2, q3, q4, q5⟩, -⟩, -⟩ := K s₁ rfl X₀
    exact ⟨t, o, a1, b1, b2, q5⟩
/-- THE REFUTATION, of any such start -/
theorem refuted {l : Launch} (hfl : l.flags = flags0) (hL : Lists l classFile x code maxLocals ret tables_1 room_1) {p : Program} {e : Env} (ha : l.admits e) (hc : FairCas e.choices) (hk : FairClock e.choices) {s : State} {m : MethodId} {b : Addr} {below : List Frame}
    (hf : s.frames = Frame.invoking m #[.ref b] :: below) (hfit : argsFit s.vm m #[.ref b] = true) (hheap : heapFits s = true) (happ : (headSpec (Cond.code x code maxLocals ret :: tables_1) room_1).applies x e.platform s = true)
    (hrest : rest_1 p.tables e #[.ref b] s) (hpre : Pre_1 p.tables e #[.ref b] s) (hroom : s.hasRoom e.platform roomL = true) {xs : List Int32} (hxs : s.IntsAt b xs) (hn : xs.length = 1332) (hsc : ∀ j, j < 1332 → xs.getD j 0 = scr j) : ¬ Claimed_1_1 := by
  intro h
  obtain ⟨n, o, hw, hrun, hend, -, hd⟩ := h l hfl hL trivial p e ha hc hk s m _ below hf hfit hheap happ ⟨trivial, hrest, hpre⟩
  have h8 := (Spec.appliesLoose_iff hf).mp ((Spec.applies_iff_loose hf).mp happ).1
  have happ2 : (headSpec (Cond.code x code maxLocals ret :: tables_1) roomL).appliesLoose x e.platform s = true := (Spec.appliesLoose_iff hf).mpr ⟨h8.1, h8.2.1, h8.2.2.1, h8.2.2.2.1, h8.2.2.2.2.1, h8.2.2.2.2.2.1, hroom, h8.2.2.2.2.2.2.2⟩
  obtain ⟨n2, o2, hw2, hrun2, hend2, hbig⟩ := law_met l b xs p e ha hc hk s m _ below hf happ2 ⟨rfl, hxs, hn, hsc⟩ trivial
  obtain ⟨rfl, rfl⟩ := the_end_unique (f := fun k => stepsAlone p.tables e k s) hw hend hw2 hend2
  obtain ⟨hF, -⟩ := hd
  obtain ⟨-, -, hs⟩ := hF
  have h9 := hs.2.2.1
  have h10 : (stepsAlone p.tables e n s).heap.size ≤ s.heap.size + 621792 := h9
  omega
