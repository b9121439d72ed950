/-! RANKS by losses of the others than the sink; their ways of sharing one after another -/
theorem Rep.congr {n : Nat} {E : Nat → Nat → Nat} {z : Nat} {r r' : Nat → Int} {g : Nat → Nat} (h : Rep n E z r g) (he : ∀ v, v < n → v ≠ z → r v = r' v) : Rep n E z r' g := by
  obtain ⟨h1, h2, f, h3, h4⟩ := h
  exact ⟨h1, h2, f, h3, fun v hv hvz => by have := h4 v hv hvz; have := he v hv hvz; show r' v - ((g v : Nat) : Int) = _; have h5 : r v - ((g v : Nat) : Int) = Lap E f v := h4 v hv hvz; omega⟩
theorem rdv_le {n : Nat} {E : Nat → Nat → Nat} (hG : Gr n E) (hC : Conn n E) (hn : 2 ≤ n) {z : Nat} {t : Int} {g : Nat → Nat} (hS : Stl E z g) : rdv n E z t g z ≤ t := by
  have h : 0 ≤ sI (fun w => if w = z then 0 else (dg E w : Int) - 1 - g w) n := sI_nn fun w hw => by
    by_cases hwz : w = z
    · rw [if_pos hwz]; exact Int.le_refl _
    · rw [if_neg hwz]
      have := hS w (by have := hG.1; omega) hwz (conn_dg hG hC hn hw)
      omega
  unfold rdv
  rw [if_pos rfl]; omega
theorem rdv_z {n : Nat} {E : Nat → Nat → Nat} {z : Nat} {t t' : Int} {g : Nat → Nat} : rdv n E z t g z - rdv n E z t' g z = t - t' := by
  unfold rdv
  rw [if_pos rfl, if_pos rfl]; omega
theorem rdv_cg {n : Nat} {E : Nat → Nat → Nat} {z : Nat} {t : Int} {g g' : Nat → Nat} (h : ∀ v, v < n → v ≠ z → g v = g' v) : rdv n E z t g z = rdv n E z t g' z := by
  unfold rdv
  rw [if_pos rfl, if_pos rfl]
  congr 1
  exact sI_congr fun w hw => by
    by_cases hwz : w = z
    · rw [if_pos hwz, if_pos hwz]
    · rw [if_neg hwz, if_neg hwz, h w hw hwz]
/-- the debts less 1 from the degrees, as the finder wants them, with losses -/
def mrow (E : Nat → Nat → Nat) (D : Nat → Int) (e : Nat → Nat) (v : Nat) : Int := (dg E v : Int) - 1 - D v + e v
theorem rk_iff {n : Nat} {E : Nat → Nat → Nat} (hG : Gr n E) (hC : Conn n E) (hn : 2 ≤ n) {z : Nat} (hz : z < n) (D : Nat → Int) {k : Int} : RkGe n E D k ↔ ∀ e g : Nat → Nat, e z = 0 → ((sumN e n : Nat) : Int) ≤ k → Rep n E z (mrow E D e) g → k ≤ rdv n E z (sI D n) g z := by
  have key : ∀ (e' : Nat → Int) (e g : Nat → Nat), (∀ v, v < n → v ≠ z → e' v = e v) → Rep n E z (mrow E D e) g → (Win n E (fun v => D v - e' v) ↔ sI e' n ≤ rdv n E z (sI D n) g z) := fun e' e g he hR => by
    have hR2 : Rep n E z (fun v => (dg E v : Int) - 1 - (D v - e' v)) g := hR.congr fun v hv hvz => by
      have := he v hv hvz
      show (dg E v : Int) - 1 - D v + e v = _
      omega
    have h1 := win_iff hG hC hn hz hR2
    have h2 := rdv_z (n := n) (E := E) (z := z) (t := sI D n) (t' := sI (fun v => D v - e' v) n) (g := g)
    rw [sI_sub] at h2 h1
    rw [h1]
    omega
  constructor
  · intro hK e g he0 hle hR
    let e' : Nat → Int := fun v => (e v : Int) + if v = z then k - ((sumN e n : Nat) : Int) else 0
    have hs : sI e' n = k := by
      show sI (fun v => _ + _) n = k
      rw [sI_add, sI_ite, if_pos hz, ← sumN_I]; omega
    have hw := hK e' (fun v _ => by show 0 ≤ _ + _; split <;> omega) hs
    have := (key e' e g (fun v _ hvz => by show _ + _ = _; rw [if_neg hvz]; omega) hR).mp hw
    omega
  · intro hK e' hnn hs
    let e : Nat → Nat := fun v => if v = z then 0 else (e' v).toNat
    obtain ⟨g, hR⟩ := rep_exists hG hC hn hz (mrow E D e)
    refine (key e' e g (fun v hv hvz => ?_) hR).mpr ?_
    · show e' v = (((if v = z then 0 else (e' v).toNat) : Nat) : Int)
      rw [if_neg hvz]
      have := hnn v hv
      omega
    · rw [hs]
      refine hK e g (if_pos rfl) ?_ hR
      rw [sumN_I, ← hs]
      exact sI_le fun v hv => by
        show (((if v = z then 0 else (e' v).toNat) : Nat) : Int) ≤ e' v
        have := hnn v hv
        split <;> omega
/-- the losses in order; shares of one sum -/
def CL (x y : Nat → Nat) : Prop := x 4 < y 4 ∨ (x 4 = y 4 ∧ (x 3 < y 3 ∨ (x 3 = y 3 ∧ (x 2 < y 2 ∨ (x 2 = y 2 ∧ (x 1 < y 1 ∨ (x 1 = y 1 ∧ x 0 < y 0)))))))
def sm5 (x : Nat → Nat) : Nat := x 0 + x 1 + x 2 + x 3 + x 4
def V9 (x : Nat → Nat) : Nat := x 0 + 9 * x 1 + 81 * x 2 + 729 * x 3 + 6561 * x 4
def nxt (x : Nat → Nat) (i : Nat) : Nat → Nat := fun j => if j = 0 then x i - 1 else if j = i then 0 else if j = i + 1 then x (i + 1) + 1 else x j
theorem nxt_step {x y : Nat → Nat} {i : Nat} (hi : i < 4) (h0 : ∀ j, j < i → x j = 0) (h1 : 0 < x i) : sm5 (nxt x i) = sm5 x ∧ (sm5 y = sm5 x → CL y (nxt x i) → CL y x ∨ (y 0 = x 0 ∧ y 1 = x 1 ∧ y 2 = x 2 ∧ y 3 = x 3 ∧ y 4 = x 4)) ∧ (sm5 x ≤ 8 → V9 x < V9 (nxt x i)) := by
  have hi4 : i = 0 ∨ i = 1 ∨ i = 2 ∨ i = 3 := by omega
  rcases hi4 with rfl | rfl | rfl | rfl
  · unfold sm5 CL V9 nxt
    simp only [if_true, Nat.reduceEqDiff, if_false, Nat.reduceAdd, Nat.zero_add, Nat.one_ne_zero]
    refine ⟨by omega, fun q => by omega, by omega⟩
  · have a0 := h0 0 (by omega)
    unfold sm5 CL V9 nxt
    simp only [if_true, Nat.reduceEqDiff, if_false, Nat.reduceAdd, Nat.zero_add, Nat.one_ne_zero]
    refine ⟨by omega, fun q => by omega, by omega⟩
  · have a0 := h0 0 (by omega)
    have a1 := h0 1 (by omega)
    unfold sm5 CL V9 nxt
    simp only [if_true, Nat.reduceEqDiff, if_false, Nat.reduceAdd, Nat.zero_add, Nat.one_ne_zero]
    refine ⟨by omega, fun q => by omega, by omega⟩
  · have a0 := h0 0 (by omega)
    have a1 := h0 1 (by omega)
    have a2 := h0 2 (by omega)
    unfold sm5 CL V9 nxt
    simp only [if_true, Nat.reduceEqDiff, if_false, Nat.reduceAdd, Nat.zero_add, Nat.one_ne_zero]
    refine ⟨by omega, fun q => by omega, by omega⟩
theorem nxt_end {x y : Nat → Nat} {l : Nat} (hl : l < 5) (hx : ∀ j, j < 5 → j ≠ l → x j = 0) (hy : ∀ j, l < j → j < 5 → y j = 0) (hs : sm5 y = sm5 x) : CL y x ∨ (y 0 = x 0 ∧ y 1 = x 1 ∧ y 2 = x 2 ∧ y 3 = x 3 ∧ y 4 = x 4) := by
  have b1 := hy 1
  have b2 := hy 2
  have b3 := hy 3
  have b4 := hy 4
  have a0 := hx 0
  have a1 := hx 1
  have a2 := hx 2
  have a3 := hx 3
  have a4 := hx 4
  have hl5 : l = 0 ∨ l = 1 ∨ l = 2 ∨ l = 3 ∨ l = 4 := by omega
  unfold CL
  unfold sm5 at hs
  rcases hl5 with rfl | rfl | rfl | rfl | rfl <;> simp at a0 a1 a2 a3 a4 b1 b2 b3 b4 <;> omega
theorem cl_least {x y : Nat → Nat} (h1 : ∀ j, 0 < j → j < 5 → x j = 0) (hs : sm5 y = sm5 x) : ¬ CL y x := by
  have a1 := h1 1 (by omega) (by omega)
  have a2 := h1 2 (by omega) (by omega)
  have a3 := h1 3 (by omega) (by omega)
  have a4 := h1 4 (by omega) (by omega)
  unfold CL
  unfold sm5 at hs
  omega
theorem V9_le {x : Nat → Nat} (h : sm5 x ≤ 8) : V9 x ≤ 52488 := by
  unfold sm5 at h
  unfold V9
  omega
/-- losses by the places of the others -/
def onP (z : Nat) (x : Nat → Nat) (v : Nat) : Nat := if v = z then 0 else if v < z then x v else x (v - 1)
theorem onP_skp (z : Nat) (x : Nat → Nat) (i : Nat) : onP z x (skp z i) = x i := by
  unfold onP skp
  by_cases h : i < z
  · rw [if_pos h, if_neg (by omega), if_pos h]
  · rw [if_neg h, if_neg (by omega), if_neg (by omega)]; rfl
theorem sumN_skp {f : Nat → Nat} {z : Nat} : ∀ {n : Nat}, z < n + 1 → sumN f (n + 1) = sumN (fun i => f (skp z i)) n + f z
  | 0, hz => by
    have : z = 0 := by omega
    subst this
    rfl
  | n + 1, hz => by
    show sumN f (n + 1) + f (n + 1) = sumN (fun i => f (skp z i)) n + f (skp z n) + f z
    by_cases h : z < n + 1
    · rw [sumN_skp h, show skp z n = n + 1 by unfold skp; rw [if_neg (by omega)]]; omega
    · have hzn : z = n + 1 := by omega
      subst hzn
      have h1 : sumN (fun i => f (skp (n + 1) i)) n = sumN f n := sumN_eq fun j hj => by rw [show skp (n + 1) j = j by unfold skp; rw [if_pos (by omega)]]
      rw [h1, show skp (n + 1) n = n by unfold skp; rw [if_pos (by omega)]]
      rfl
theorem sI_skp {f : Nat → Int} {z : Nat} : ∀ {n : Nat}, z < n + 1 → sI f (n + 1) = sI (fun i => f (skp z i)) n + f z
  | 0, hz => by
    have : z = 0 := by omega
    subst this
    rfl
  | n + 1, hz => by
    show sI f (n + 1) + f (n + 1) = sI (fun i => f (skp z i)) n + f (skp z n) + f z
    by_cases h : z < n + 1
    · rw [sI_skp h, show skp z n = n + 1 by unfold skp; rw [if_neg (by omega)]]; omega
    · have hzn : z = n + 1 := by omega
      subst hzn
      have h1 : sI (fun i => f (skp (n + 1) i)) n = sI f n := sI_congr fun j hj => by rw [show skp (n + 1) j = j by unfold skp; rw [if_pos (by omega)]]
      rw [h1, show skp (n + 1) n = n by unfold skp; rw [if_pos (by omega)]]
      rfl
theorem sm5_sum {n z : Nat} (hn : n ≤ 6) (hn1 : 1 ≤ n) (hz : z < n) {x : Nat → Nat} (hx : ∀ j, n ≤ j + 1 → x j = 0) : sumN (onP z x) n = sm5 x := by
  obtain ⟨m, rfl⟩ : ∃ m, n = m + 1 := ⟨n - 1, by omega⟩
  rw [sumN_skp hz, show onP z x z = 0 from if_pos rfl, sumN_eq (g := x) fun j _ => onP_skp z x j]
  have h5 : sumN x 5 = sumN x m := by
    have key : ∀ d, sumN x (m + d) = sumN x m := by
      intro d
      induction d with
      | zero => rfl
      | succ d ih =>
        show sumN x (m + d) + x (m + d) = _
        rw [ih, hx (m + d) (by omega)]; omega
    have := key (5 - m)
    rwa [show m + (5 - m) = 5 by omega] at this
  rw [← h5]
  show 0 + x 0 + x 1 + x 2 + x 3 + x 4 + 0 = _
  unfold sm5; omega
/-- what the loops over the losses know: r is low enough for those tried, and not too low -/
def RInv (n : Nat) (E : Nat → Nat → Nat) (z : Nat) (D : Nat → Int) (lost : Nat) (r : Int) (x : Nat → Nat) : Prop :=
  -1 ≤ r ∧ (∃ e g, e z = 0 ∧ Rep n E z (mrow E D e) g ∧ ((sumN e n : Nat) : Int) ≤ r + 1 ∧ rdv n E z (sI D n) g z ≤ r) ∧
  ∀ y g, (∀ j, n ≤ j + 1 → y j = 0) → Rep n E z (mrow E D (onP z y)) g → (sm5 y < lost ∨ sm5 y = lost ∧ CL y x) → r ≤ max (rdv n E z (sI D n) g z) ((sm5 y : Int) - 1)
theorem rinv_start {n : Nat} {E : Nat → Nat → Nat} (hG : Gr n E) (hC : Conn n E) (hn : 2 ≤ n) {z : Nat} (hz : z < n) {D : Nat → Int} (h0 : 0 ≤ sI D n) {x : Nat → Nat} (hx : ∀ j, x j = 0) : RInv n E z D 0 (sI D n) x := by
  obtain ⟨g, hR⟩ := rep_exists hG hC hn hz (mrow E D fun _ => 0)
  refine ⟨by omega, ⟨fun _ => 0, g, rfl, hR, by rw [sumN_0 fun _ _ => rfl]; show (0 : Int) ≤ _; omega, rdv_le hG hC hn hR.1⟩, fun y g hy hR2 h => ?_⟩
  rcases h with h | ⟨h1, h2⟩
  · omega
  · exact absurd h2 (cl_least (fun j _ _ => hx j) (by rw [h1]; unfold sm5; rw [hx, hx, hx, hx, hx]))
theorem rinv_step {n : Nat} {E : Nat → Nat → Nat} (hG : Gr n E) (hC : Conn n E) (hn : 2 ≤ n) {z : Nat} (hz : z < n) {D : Nat → Int} {lost : Nat} {r : Int} {x g : Nat → Nat} (h : RInv n E z D lost r x) (hlr : (lost : Int) ≤ r) (hx : ∀ j, n ≤ j + 1 → x j = 0) (hs : sm5 x = lost) (hR : Rep n E z (mrow E D (onP z x)) g) {r' : Int} (hr' : r' = if rdv n E z (sI D n) g z < r then max (rdv n E z (sI D n) g z) ((lost : Int) - 1) else r) :
    -1 ≤ r' ∧ (∃ e g, e z = 0 ∧ Rep n E z (mrow E D e) g ∧ ((sumN e n : Nat) : Int) ≤ r' + 1 ∧ rdv n E z (sI D n) g z ≤ r') ∧
    ∀ y g, (∀ j, n ≤ j + 1 → y j = 0) → Rep n E z (mrow E D (onP z y)) g → (sm5 y < lost ∨ sm5 y = lost ∧ (CL y x ∨ (y 0 = x 0 ∧ y 1 = x 1 ∧ y 2 = x 2 ∧ y 3 = x 3 ∧ y 4 = x 4))) → r' ≤ max (rdv n E z (sI D n) g z) ((sm5 y : Int) - 1) := by
  have hn6 := hG.1
  obtain ⟨h1, h2, h3⟩ := h
  refine ⟨by rw [hr']; split <;> omega, ?_, fun y g2 hy hR2 hq => ?_⟩
  · by_cases hlt : rdv n E z (sI D n) g z < r
    · rw [if_pos hlt] at hr'
      refine ⟨onP z x, g, if_pos rfl, hR, ?_, by omega⟩
      rw [sm5_sum hn6 (by omega) hz hx, hs]
      omega
    · rw [if_neg hlt] at hr'
      rw [hr']; exact h2
  · have hle : r' ≤ r := by rw [hr']; split <;> omega
    have old : (sm5 y < lost ∨ sm5 y = lost ∧ CL y x) → r' ≤ max (rdv n E z (sI D n) g2 z) ((sm5 y : Int) - 1) := fun q => Int.le_trans hle (h3 y g2 hy hR2 q)
    rcases hq with q | ⟨q1, q2 | ⟨q0, q3, q4, q5, q6⟩⟩
    · exact old (Or.inl q)
    · exact old (Or.inr ⟨q1, q2⟩)
    · have hxy : ∀ j, y j = x j := fun j => by
        rcases Nat.lt_or_ge j 5 with hj | hj
        · have : j = 0 ∨ j = 1 ∨ j = 2 ∨ j = 3 ∨ j = 4 := by omega
          rcases this with rfl | rfl | rfl | rfl | rfl <;> assumption
        · rw [hy j (by omega), hx j (by omega)]
      have hyx : y = x := funext hxy
      subst hyx
      have h4 : rdv n E z (sI D n) g2 z = rdv n E z (sI D n) g z := rdv_cg (rep_one hG hC hn hz hR2 hR (Eqv.refl n E z _))
      rw [h4, q1, hr']
      split <;> omega
theorem rinv_next {n : Nat} {E : Nat → Nat → Nat} {z : Nat} {D : Nat → Int} {lost : Nat} {r : Int} {x : Nat → Nat} (h : -1 ≤ r ∧ (∃ e g, e z = 0 ∧ Rep n E z (mrow E D e) g ∧ ((sumN e n : Nat) : Int) ≤ r + 1 ∧ rdv n E z (sI D n) g z ≤ r) ∧
    ∀ y g, (∀ j, n ≤ j + 1 → y j = 0) → Rep n E z (mrow E D (onP z y)) g → (sm5 y < lost ∨ sm5 y = lost ∧ (CL y x ∨ (y 0 = x 0 ∧ y 1 = x 1 ∧ y 2 = x 2 ∧ y 3 = x 3 ∧ y 4 = x 4))) → r ≤ max (rdv n E z (sI D n) g z) ((sm5 y : Int) - 1)) (hs : sm5 x = lost) {i : Nat} (hi : i < 4) (h0 : ∀ j, j < i → x j = 0) (h1 : 0 < x i) : RInv n E z D lost r (nxt x i) := by
  refine ⟨h.1, h.2.1, fun y g hy hR q => h.2.2 y g hy hR ?_⟩
  rcases q with q | ⟨q1, q2⟩
  · exact Or.inl q
  · exact Or.inr ⟨q1, (nxt_step hi h0 h1).2.1 (by rw [q1, hs]) q2⟩
theorem rinv_end {n : Nat} {E : Nat → Nat → Nat} {z : Nat} {D : Nat → Int} {lost : Nat} {r : Int} {x : Nat → Nat} (hn : 2 ≤ n) (hn6 : n ≤ 6) (h : -1 ≤ r ∧ (∃ e g, e z = 0 ∧ Rep n E z (mrow E D e) g ∧ ((sumN e n : Nat) : Int) ≤ r + 1 ∧ rdv n E z (sI D n) g z ≤ r) ∧
    ∀ y g, (∀ j, n ≤ j + 1 → y j = 0) → Rep n E z (mrow E D (onP z y)) g → (sm5 y < lost ∨ sm5 y = lost ∧ (CL y x ∨ (y 0 = x 0 ∧ y 1 = x 1 ∧ y 2 = x 2 ∧ y 3 = x 3 ∧ y 4 = x 4))) → r ≤ max (rdv n E z (sI D n) g z) ((sm5 y : Int) - 1)) (hs : sm5 x = lost) (hx : ∀ j, n ≤ j + 1 → x j = 0) (h0 : ∀ j, j + 2 < n → x j = 0) {x' : Nat → Nat} (hx' : ∀ j, 0 < j → x' j = 0) (hx0 : x' 0 = lost + 1) : RInv n E z D (lost + 1) r x' := by
  refine ⟨h.1, h.2.1, fun y g hy hR q => h.2.2 y g hy hR ?_⟩
  have hq : sm5 y ≤ lost := by
    rcases q with q | ⟨q1, q2⟩
    · omega
    · exact absurd q2 (cl_least (fun j hj _ => hx' j hj) (by rw [q1]; unfold sm5; rw [hx0, hx' 1 (by omega), hx' 2 (by omega), hx' 3 (by omega), hx' 4 (by omega)]))
  rcases Nat.lt_or_ge (sm5 y) lost with q2 | q2
  · exact Or.inl q2
  · exact Or.inr ⟨by omega, nxt_end (l := n - 2) (by omega) (fun j hj hjl => by
      rcases Nat.lt_or_ge (j + 2) n with q3 | q3
      · exact h0 j q3
      · exact hx j (by omega)) (fun j hj _ => hy j (by omega)) (by omega)⟩
/-- all that could lower it are tried: it is the rank -/
theorem rinv_rank {n : Nat} {E : Nat → Nat → Nat} (hG : Gr n E) (hC : Conn n E) (hn : 2 ≤ n) {z : Nat} (hz : z < n) {D : Nat → Int} {r : Int} (h1 : -1 ≤ r) (h2 : ∃ e g, e z = 0 ∧ Rep n E z (mrow E D e) g ∧ ((sumN e n : Nat) : Int) ≤ r + 1 ∧ rdv n E z (sI D n) g z ≤ r)
    (h3 : ∀ y g, (∀ j, n ≤ j + 1 → y j = 0) → Rep n E z (mrow E D (onP z y)) g → (sm5 y : Int) ≤ r → r ≤ max (rdv n E z (sI D n) g z) ((sm5 y : Int) - 1)) : IsRk n E D r := by
  constructor
  · by_cases hr : r < 0
    · exact bad_neg hr
    · rw [bad_iff hG hC hn D (by omega)]
      refine fun q => q ((rk_iff hG hC hn hz D).mpr fun e g he hle hR => ?_)
      -- the losses by places
      let y : Nat → Nat := fun i => if i + 1 < n then e (skp z i) else 0
      have hy : ∀ j, n ≤ j + 1 → y j = 0 := fun j hj => if_neg (by omega)
      have hey : ∀ v, v < n → onP z y v = e v := fun v hv => by
        by_cases hvz : v = z
        · rw [hvz, he]; exact if_pos rfl
        · by_cases hlt : v < z
          · have h4 : onP z y v = y v := by unfold onP; rw [if_neg hvz, if_pos hlt]
            rw [h4]
            show (if v + 1 < n then e (skp z v) else 0) = _
            rw [if_pos (by omega), show skp z v = v from if_pos hlt]
          · have h4 : onP z y v = y (v - 1) := by unfold onP; rw [if_neg hvz, if_neg hlt]
            rw [h4]
            show (if v - 1 + 1 < n then e (skp z (v - 1)) else 0) = _
            rw [if_pos (by omega), show skp z (v - 1) = v by unfold skp; rw [if_neg (by omega)]; omega]
      have hsum : sumN e n = sm5 y := by
        rw [← sm5_sum hG.1 (by omega) hz hy]
        exact sumN_eq fun v hv => (hey v hv).symm
      have := h3 y g hy (hR.congr fun v hv _ => by unfold mrow; rw [hey v hv]) (by omega)
      omega
  · rw [bad_iff hG hC hn D (by omega)]
    intro q
    obtain ⟨e, g, he, hR, hle, hlt⟩ := h2
    have := (rk_iff hG hC hn hz D).mp q e g he hle hR
    omega
/-- with less than nothing -/
theorem rank_neg {n : Nat} {E : Nat → Nat → Nat} (hG : Gr n E) (hC : Conn n E) (hn : 2 ≤ n) {z : Nat} (hz : z < n) {D : Nat → Int} (h : sI D n < 0) : IsRk n E D (-1) := by
  obtain ⟨g, hR⟩ := rep_exists hG hC hn hz (mrow E D fun _ => 0)
  exact rinv_rank hG hC hn hz (by omega) ⟨fun _ => 0, g, rfl, hR, by rw [sumN_0 fun _ _ => rfl]; show (0 : Int) ≤ _; omega, by have := rdv_le hG hC hn (t := sI D n) hR.1; omega⟩ fun y g _ _ q => by omega
