theorem incl0 : ∀ w ∈ u_ws RJ0 TJ0 2, w ∈ lw_tbl := by decide +kernel
theorem incl1 : ∀ w ∈ u_ws RJx00060 TJx00060 6, w ∈ lw_tbl := by decide +kernel
theorem incl2 : ∀ w ∈ u_ws RX0 TX0 7, w ∈ lw_tbl := by decide +kernel
theorem incl3 : ∀ w ∈ u_ws RX1 TX1 2, w ∈ lw_tbl := by decide +kernel
theorem incl4 : ∀ w ∈ u_ws RX2 TX2 4, w ∈ lw_tbl := by decide +kernel
theorem incl5 : ∀ w ∈ u_ws RX3 TX3 4, w ∈ lw_tbl := by decide +kernel
theorem incl6 : ∀ w ∈ u_ws RX4 TX4 3, w ∈ lw_tbl := by decide +kernel
theorem incl7 : ∀ w ∈ u_ws RX5 TX5 1, w ∈ lw_tbl := by decide +kernel
theorem incl8 : ∀ w ∈ u_ws RX6 TX6 4, w ∈ lw_tbl := by decide +kernel
theorem incl9 : ∀ w ∈ u_ws RX7 TX7 3, w ∈ lw_tbl := by decide +kernel
theorem incl10 : ∀ w ∈ u_ws RX8 TX8 1, w ∈ lw_tbl := by decide +kernel
theorem incl11 : ∀ w ∈ u_ws RX9 TX9 1, w ∈ lw_tbl := by decide +kernel
theorem incl12 : ∀ w ∈ u_ws RX10 TX10 11, w ∈ lw_tbl := by decide +kernel
theorem incl13 : ∀ w ∈ u_ws RL TL 9, w ∈ lw_tbl := by decide +kernel
theorem stack_off (l : Launch) (h : l.flags = flags0) : l.stackTraces = false := by
  unfold Launch.stackTraces
  rw [h]
  decide
theorem str_at {args : Array Value} {s : State} {own tx : String} {i cur : Nat} (hc : s.vm.findClass own = some cur) (h : (Cond.stringRef own i tx).before args s = true) : ∃ sa, vk_R own i tx sa s := by
  obtain ⟨k, cf, i', a, -, -, -, -, -, he⟩ := Cond.stringRef_spec hc h
  exact ⟨a, vk_R.of (A := args) h he⟩
theorem cls_known {args : Array Value} {s : State} (hts : ∀ w ∈ lw_tbl, w.before args s = true) : ∃ D : Nat → ClassId × (Nat → Nat), ∀ (c : Nat) (q : vw_C), vwCl[c]? = some q → u_Kn s q.1 q.2.1 q.2.2 (D c).1 (D c).2 := by
  have key : ∀ c : Nat, ∃ y : ClassId × (Nat → Nat), ∀ q : vw_C, vwCl[c]? = some q → u_Kn s q.1 q.2.1 q.2.2 y.1 y.2 := by
    have one : ∀ {C : String} {T : u_T} {N n : Nat}, (∀ w ∈ u_ws C T N, w ∈ lw_tbl) → Cond.instantiable C n ∈ lw_tbl → ∃ y : ClassId × (Nat → Nat), ∀ q : vw_C, some ((C, T, N) : vw_C) = some q → u_Kn s q.1 q.2.1 q.2.2 y.1 y.2 := by
      intro C T N n h1 h2
      obtain ⟨cC, iS, h⟩ := u_known (C := C) (T := T) (N := N) (n := n) hts h1 (hts _ h2)
      exact ⟨(cC, iS), fun q hq => by cases hq; exact h⟩
    intro c
    match c with
    | 0 => exact one (n := 4) incl0 (by decide +kernel)
    | 1 => exact one (n := 6) incl1 (by decide +kernel)
    | 2 => exact one (n := 7) incl2 (by decide +kernel)
    | 3 => exact one (n := 2) incl3 (by decide +kernel)
    | 4 => exact one (n := 4) incl4 (by decide +kernel)
    | 5 => exact one (n := 4) incl5 (by decide +kernel)
    | 6 => exact one (n := 3) incl6 (by decide +kernel)
    | 7 => exact one (n := 1) incl7 (by decide +kernel)
    | 8 => exact one (n := 4) incl8 (by decide +kernel)
    | 9 => exact one (n := 3) incl9 (by decide +kernel)
    | 10 => exact one (n := 1) incl10 (by decide +kernel)
    | 11 => exact one (n := 1) incl11 (by decide +kernel)
    | 12 => exact one (n := 11) incl12 (by decide +kernel)
    | 13 => exact one (n := 9) incl13 (by decide +kernel)
    | c + 14 => exact ⟨(0, fun _ => 0), fun q hq => by simp [vwCl] at hq⟩
  exact Classical.axiomOfChoice key
theorem arr_known {args : Array Value} {s : State} {ty : FieldType} (h : (Cond.arrayClass ty).before args s = true) (hra : ∀ cA, va_RA s cA ty = (s.vm.findClass ("[" ++ ty.toString) = some cA)) : ∃ cA : ClassId, ArrOfT s cA ty ∧ va_RA s cA ty := by
  obtain ⟨c, k, x, h1, h2, h3⟩ := Cond.arrayClass_spec h
  exact ⟨c, fun n z => ⟨(fun q hq => by cases hq), k, h2, x, h3⟩, by rw [hra]; exact h1⟩
theorem arr_known2 {args : Array Value} {s : State} {ty : FieldType} (h : (Cond.arrayOver (.array ty)).before args s = true) : ∃ cA : ClassId, ArrOfT s cA (.array ty) ∧ va_RA s cA (.array ty) := by
  obtain ⟨comp, c, k, h1, h2, h3, h4, h5⟩ := arrayOver_specB h
  exact ⟨c, fun n z => ⟨(fun q hq => by cases hq), k, h3, comp, h4⟩, h5⟩
theorem na_b {b n : Nat} (h : b < n) : ¬ va_A [] n b := by
  rintro (⟨i, x, q⟩ | q)
  · simp at q
  · omega
theorem A_new {n : Nat} : ∀ a : Nat, a < n → ¬ va_A [] n a := fun _ h => na_b h
set_option maxHeartbeats 1000000 in
set_option maxRecDepth 100000 in
theorem whole_start {p : Program} {e : Env} {s : State} {m : MethodId} {below : List Frame} {meth : Method} {c : Code} (l : Launch) (hflags : l.flags = flags0) {b L : Nat} {xs : Nat → Int32} (hL : L ≤ 260) (C0 : lw_At p s m meth c b L xs) : W p l e room_1 s m #[Value.ref b] below meth c s.heap [] 0 0 (lw_Z below #[Value.ref b] s) (entryFrame m ([Value.ref b] : List Value).toArray 5) := by
  obtain ⟨hx, hb, hr, hml, hown, hts, hX, hbl, hlocks, hgv⟩ := id C0
  obtain ⟨D0, hD0⟩ := cls_known hts
  obtain ⟨k0, hk0⟩ := arr_known (ty := .int) (hts _ (by decide +kernel)) (fun _ => rfl)
  obtain ⟨k1, hk1⟩ := arr_known (ty := .long) (hts _ (by decide +kernel)) (fun _ => rfl)
  obtain ⟨k2, hk2⟩ := arr_known (ty := .boolean) (hts _ (by decide +kernel)) (fun _ => rfl)
  obtain ⟨k3, hk3⟩ := arr_known2 (ty := .int) (hts _ (by decide +kernel))
  let k : Nat → ClassId := fun i => if i = 0 then k0 else if i = 1 then k1 else if i = 2 then k2 else if i = 3 then k3 else k0
  have hK : va_K (fun c => (D0 c).1, fun c => (D0 c).2) vwCl (tyG k) s := by
    refine ⟨hD0, fun i q hq => ?_⟩
    match i, hq with
    | 0, hq => cases hq; exact hk0
    | 1, hq => cases hq; exact hk1
    | 2, hq => cases hq; exact hk2
    | 3, hq => cases hq; exact hk3
    | 4, hq => cases hq; exact hk0
    | 5, hq => cases hq; exact hk0
    | i + 6, hq => simp [tyG] at hq
  have hNF : NF s := by
    refine ⟨fun q hq => ?_, ?_, ?_, ?_⟩
    · refine va_Nw.of rfl (hts _ ?_)
      have hall : ∀ q ∈ nestW, Cond.methodLinkNest q.1 q.2.1 q.2.2.1 q.2.2.2 ∈ lw_tbl := by decide +kernel
      exact hall q hq
    · exact hts (.arrayOver (.array .int)) (by decide +kernel)
    · exact hts (.arrayOver (.array .int)) (by decide +kernel)
    · exact va_Nw.of rfl (hts (.castable "[I" "java/lang/Cloneable") (by decide +kernel))
  have hs := flat_of_before _ hgv
  have hNX : NX s := by
    refine ⟨fun y hy => ?_, fun q hq => ?_, fun n hn => ?_, fun a ha b' hb' hab => ?_⟩
    · have hall : ∀ y ∈ declW, Cond.declares y ∈ lw_tbl := by decide +kernel
      exact va_Nw.of rfl (hts _ (hall y hy))
    · have hall : ∀ q ∈ strW, Cond.stringRef q.1 q.2.1 q.2.2 ∈ lw_tbl := by decide +kernel
      have hq1 : q.1 = "Chipfold" := by
        have hall2 : ∀ q ∈ strW, q.1 = "Chipfold" := by decide +kernel
        exact hall2 q hq
      have hw := hts _ (hall q hq)
      have hcur : ∃ cur, s.vm.findClass q.1 = some cur := by
        have h1 := hw
        simp only [Cond.before, Cond.holds, Cond.value] at h1
        cases hc : s.vm.findClass q.1 with
        | none => simp [hc] at h1
        | some cur => exact ⟨cur, rfl⟩
      obtain ⟨cur, hcur⟩ := hcur
      exact str_at hcur hw
    · have hall : ∀ n ∈ excN, Cond.castable n n ∈ lw_tbl := by decide +kernel
      exact va_Nw.of rfl (hts _ (hall n hn))
    · have hall : ∀ a ∈ excN, ∀ b ∈ excN, a ≠ b → Cond.not (.castable a b) ∈ flatC (Jvm.Cond.and given_1 narrow_1) := by decide +kernel
      exact va_Nc.of (hs _ (hall a ha b' hb' hab))
  have hEX : EX l (va_A [] s.heap.size) s := by
    refine ⟨by rw [stack_off l hflags], ?_, ?_⟩
    · exact vx_Zqof (hts _ (by decide +kernel)) (hts _ (by decide +kernel)) (hs _ (by decide +kernel)) A_new
    · exact vx_Zqof (hts _ (by decide +kernel)) (hts _ (by decide +kernel)) (hs _ (by decide +kernel)) A_new
  have hA : ∀ q, s.heap.size ≤ q → va_A [] s.heap.size q := fun q h => Or.inr h
  have C : Cx p l s m #[Value.ref b] c (fun c => (D0 c).1, fun c => (D0 c).2) k (va_A [] s.heap.size) cL_law RL 5 := ⟨hx, hb, hml, hown, wg_hts hts, hK, hA, hNF, hNX, hEX⟩
  have hl := lv_entry ([.ref b]) (n := 5) (Nat.le_of_ble_eq_true rfl)
  have hl : lv_has ((lg_sl ([.ref b]) ++ List.replicate (5 - (lg_sl ([.ref b])).length) Slot.unset).toArray) 5 [(0, .ref b)] := hl
  have g0 := law_begin (p9 := p) (l := l) (e9 := e) (m9 := m) (bl9 := below) (me9 := meth) C hr hlocks hX hbl (na_b hbl) hL s.heap [] (fun i q hq => by simp at hq) ⟨fun i j p q hq => by simp at hq, fun i q hq => by simp at hq⟩ va_S.rf (Nat.le_refl _) _ hl
  rw [lg_entry_eq]
  exact g0
