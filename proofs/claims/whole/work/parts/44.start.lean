/-! THE START: the witness' own state with another script in its first cell, on the least machine of the launch; so the claim falls there. -/
def lisR : List Int32 := (List.range 1332).map scr
def celR : Array Value := (lisR.map Value.int).toArray
def sR : State := start1.aboutOf celR
theorem lenR : lisR.length = 1332 := by simp [lisR]
theorem getR (j : Nat) (hj : j < 1332) : lisR.getD j 0 = scr j := by simp [lisR, hj]
set_option maxRecDepth 20000 in
theorem vmR (a b : Array Value) : (start1.aboutOf a).vm = (start1.aboutOf b).vm := rfl
set_option maxRecDepth 20000 in
theorem otherR : (tables_1.filter (fun c => !c.onTables)).all (fun c => c.before start1.args0 sR) = true := by decide +kernel
theorem codeR : (Cond.code x code maxLocals ret).onTables = true := rfl
theorem wordsR : ∀ c ∈ (Cond.code x code maxLocals ret :: tables_1), c.before start1.args0 sR = true := fun c hc => by
  by_cases h : c.onTables = true
  · exact va_tabs (A := start1.args0) (A' := start1.args0) (u := start1.about) (U := sR) h (vmR _ _) (start1.words c hc)
  · rcases List.mem_cons.mp hc with h1 | h1
    · exact absurd (h1 ▸ codeR) h
    · exact List.all_eq_true.mp otherR c (List.mem_filter.mpr ⟨h1, by simp [h]⟩)
set_option maxRecDepth 20000 in
theorem fitR : argsFit sR.vm ⟨0, 0⟩ start1.args0 = true := by decide +kernel
theorem cellSame {u U : State} (h : u.vm = U.vm) (c : Cell) : cellFits u c = cellFits U c := by
  have h1 : ∀ i v, u.fitsSlot c.cls c.vm i v = U.fitsSlot c.cls c.vm i v := fun i v => by
    unfold State.fitsSlot State.slotType?; rw [h]
  unfold cellFits
  simp only [h1]
theorem cell0R : cellFits sR { cls := 49, slots := celR, vm := .none } = true := by
  have hty : ∀ i, sR.slotType? 49 .none i = some .int := fun i => rfl
  unfold cellFits
  refine List.all_eq_true.mpr fun i hi => ?_
  have hi2 : i < celR.size := List.mem_range.mp hi
  have hv : celR[i]? = some (.int (lisR.getD i 0)) := by
    have h3 : i < lisR.length := by simpa [celR] using hi2
    rw [celR, List.getElem?_toArray, List.getElem?_map]
    simp [h3]
  simp only [hv]
  unfold State.fitsSlot
  rw [hty]
  rfl
set_option maxRecDepth 20000 in
theorem heapR0 (a : Array Value) : (start1.aboutOf a).heap.toList = { cls := 49, slots := a, vm := .none } :: start1.about.heap.toList.tail := rfl
set_option maxRecDepth 20000 in
theorem heapAbout : heapFits start1.about = true := by decide +kernel
theorem heapR : heapFits sR = true := by
  have h0 : start1.about.heap.toList.all (cellFits start1.about) = true := by
    rw [Array.all_toList]; exact heapAbout
  have h1 : sR.heap.toList.all (cellFits sR) = true := by
    rw [show sR.heap.toList = _ from heapR0 celR]
    refine List.all_eq_true.mpr fun c hc => ?_
    rcases List.mem_cons.mp hc with h | h
    · rw [h]; exact cell0R
    · rw [show cellFits sR c = cellFits start1.about c from cellSame (vmR celR start1.cells0) c]
      exact List.all_eq_true.mp h0 c (List.mem_of_mem_tail h)
  rw [Array.all_toList] at h1
  exact h1
set_option maxRecDepth 20000 in
theorem slotsR : sR.slotsTrue = true := by decide +kernel
set_option maxRecDepth 20000 in
theorem preR : (Cond.and given_1 narrow_1).before start1.args0 sR = true := by decide +kernel
set_option maxRecDepth 20000 in
theorem arrR (a : Array Value) : (start1.aboutOf a).arrayAt? 0 = some { cls := 49, slots := a, vm := .none } := rfl
set_option maxRecDepth 20000 in
theorem isR (a : Array Value) : (start1.aboutOf a).isArrayOf { cls := 49, slots := a, vm := .none } .int := ⟨(fun k h => by cases h), _, rfl, _, rfl⟩
theorem intsR : sR.IntsAt 0 lisR := ⟨{ cls := 49, slots := celR, vm := .none }, arrR celR, by simp [celR], isR celR, by rw [lenR]; decide⟩
theorem restR : rest_1_c.before start1.args0 sR = true := by
  obtain ⟨cell, h1, h2, h3, h4⟩ := intsR
  have hsz : cell.slots.size < 2 ^ 31 := by rw [← Array.length_toList, h2, List.length_map]; exact h4
  have hall : (Cond.all (.arg 0) (.isInt (.elem (.arg 0) (.index 0)))).before start1.args0 sR = true :=
    Cond.all_isInt_of_fit (show heapFits' sR = true from heapR) (fun _ => rfl) h1 hsz h3
  have hlen : (Cond.isInt (Term.length (.arg 0))).before start1.args0 sR = true := by decide +kernel
  exact (Cond.before_and _ _).trans (by rw [hlen, hall]; rfl)
set_option maxRecDepth 20000 in
theorem roomR (r : Room) (h1 : sR.frames.length + r.frames ≤ launch0.maxFrames) (h2 : sR.heap.size + r.cells ≤ launch0.maxCells) (h3 : sR.slotsUsed + r.slots ≤ launch0.maxSlots) (h4 : sR.localsInUse + r.locals ≤ launch0.maxStackSlots - stackMargin) (h5 : sR.localsInUse + r.locals + stackMargin ≤ realStackBytes / 8) : sR.hasRoom start1.e0.platform r = true :=
  launch0.hasRoom_least sR r h1 h2 h3 h4 slotsR rfl h5
set_option maxRecDepth 20000 in
theorem startR : AtStart classFile x code maxLocals ret World_1 tables_1 room_1 Calls_1 rest_1 Pre_1 launch0 start1.p0 start1.e0 sR ⟨0, 0⟩ start1.args0 Lib.HandBits.below0 :=
  ⟨lists_1, trivial, launch0.admits_env _ _ _, launch0.least_env, fairChoices_fair.cas, fairChoices_fair.clock, rfl, fitR, heapR,
    (Spec.applies_iff rfl).mpr ⟨rfl, rfl, rfl, by decide +kernel, by decide +kernel, by decide +kernel, roomR room_1 (by decide +kernel) (by decide +kernel) (by decide +kernel) (by decide +kernel) (by decide +kernel), atoms_intro wordsR⟩,
    trivial, restR, preR⟩
theorem roomLR : sR.hasRoom start1.e0.platform roomL = true := roomR roomL (by decide +kernel) (by decide +kernel) (by decide +kernel) (by decide +kernel) (by decide +kernel)
/-- how the run of the script ends on the least machine: more than 640000 cells are new -/
theorem fallR : ∃ (n : Nat) (o : Outcome), (∀ k, k < n → Within (stepsAlone start1.p0.tables start1.e0 k sR) Lib.HandBits.below0) ∧ (stepsAlone start1.p0.tables start1.e0 n sR).status = Status.running ∧ Ended (stepsAlone start1.p0.tables start1.e0 n sR) Lib.HandBits.below0 o ∧ sR.heap.size + 640000 ≤ (stepsAlone start1.p0.tables start1.e0 n sR).heap.size := by
  obtain ⟨-, -, ha, -, hc, hk, hf, -, -, happ, -, -, -⟩ := startR
  have h8 := (Spec.appliesLoose_iff hf).mp ((Spec.applies_iff_loose hf).mp happ).1
  have happ2 : (headSpec (Cond.code x code maxLocals ret :: tables_1) roomL).appliesLoose x start1.e0.platform sR = true := (Spec.appliesLoose_iff hf).mpr ⟨h8.1, h8.2.1, h8.2.2.1, h8.2.2.2.1, h8.2.2.2.2.1, h8.2.2.2.2.2.1, roomLR, h8.2.2.2.2.2.2.2⟩
  obtain ⟨n2, o2, hw2, hrun2, hend2, hbig⟩ := law_met launch0 0 lisR start1.p0 start1.e0 ha hc hk sR _ _ Lib.HandBits.below0 hf happ2 ⟨rfl, intsR, lenR, getR⟩ trivial
  exact ⟨n2, o2, hw2, hrun2, hend2, hbig⟩
theorem falls_1 : RefutedClaimed_1_1 := by
  obtain ⟨n, o, h1, h2, h3, h4⟩ := fallR
  refine ⟨launch0, start1.p0, start1.e0, sR, ⟨0, 0⟩, start1.args0, Lib.HandBits.below0, rfl, startR, n, o, h1, h2, h3, fun hP => ?_⟩
  obtain ⟨-, hF, -⟩ := hP
  obtain ⟨-, -, hs⟩ := hF
  have h10 : (stepsAlone start1.p0.tables start1.e0 n sR).heap.size ≤ sR.heap.size + 621792 := hs.2.2.1
  omega
theorem falls_2 : RefutedClaimed_1_2 := by
  obtain ⟨n, o, h1, h2, h3, h4⟩ := fallR
  refine ⟨launch0, start1.p0, start1.e0, sR, ⟨0, 0⟩, start1.args0, Lib.HandBits.below0, rfl, startR, n, o, h1, h2, h3, fun hP => ?_⟩
  obtain ⟨-, hF, -⟩ := hP
  obtain ⟨-, -, hs⟩ := hF
  have h10 : (stepsAlone start1.p0.tables start1.e0 n sR).heap.size ≤ sR.heap.size + 621792 := hs.2.2.1
  omega
theorem whole_is_false : ¬ Claimed_1_1 := by
  obtain ⟨hL, -, ha, -, hc, hk, hf, hfit, hheap, happ, -, hrest, hpre⟩ := startR
  exact refuted (l := launch0) rfl hL ha hc hk hf hfit hheap happ hrest hpre roomLR intsR lenR getR
