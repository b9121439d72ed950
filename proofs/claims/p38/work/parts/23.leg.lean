/-! SETTLING, in numbers: all topplings together; what a finder does; what a wave does -/
theorem leg_layers {n : Nat} {E : Nat → Nat → Nat} (hG : Gr n E) (hC : Conn n E) {z : Nat} (hz : z < n) {c g k : Nat → Nat} (h : Leg E z c g k) (d : Nat) : min n (d + 1) ≤ cnt (fun j => decide (k j ≤ d * sumN c 6)) n := by
  have hn := hG.1
  induction d with
  | zero =>
    have h1 := cnt_lt (P := fun _ => false) (Q := fun j => decide (k j ≤ 0 * sumN c 6)) z hz rfl (by simp [h.2.1]) (fun j _ q => by cases q)
    omega
  | succ d ih =>
    have hm : ∀ j, j < n → decide (k j ≤ d * sumN c 6) = true → decide (k j ≤ (d + 1) * sumN c 6) = true := fun j _ q => by
      simp only [decide_eq_true_eq] at q ⊢
      rw [Nat.succ_mul]; omega
    by_cases hall : ∃ u, u < n ∧ decide (k u ≤ d * sumN c 6) = false
    · obtain ⟨v, w, hv, hw, h1, h2, h3⟩ := conn_out hC (S := fun j => decide (k j ≤ d * sumN c 6)) ⟨z, hz, by simp [h.2.1]⟩ hall
      have h4 := leg_gap hG h (show w < 6 by omega) (show v < 6 by omega) (by rw [hG.2.1]; exact h3)
      have h5 := cnt_lt (P := fun j => decide (k j ≤ d * sumN c 6)) (Q := fun j => decide (k j ≤ (d + 1) * sumN c 6)) w hw h2 (by
        simp only [decide_eq_true_eq] at h1 ⊢
        rw [Nat.succ_mul]; omega) hm
      omega
    · have h6 : ∀ m, m ≤ n → cnt (fun j => decide (k j ≤ (d + 1) * sumN c 6)) m = m := by
        intro m
        induction m with
        | zero => intro _; rfl
        | succ m ihm =>
          intro hmn
          show cnt _ m + _ = _
          rw [ihm (by omega)]
          have h7 : decide (k m ≤ d * sumN c 6) = true := by
            cases hq : decide (k m ≤ d * sumN c 6)
            · exact absurd ⟨m, by omega, hq⟩ hall
            · rfl
          have h8 := hm m (by omega) h7
          simp only [h8, if_true]
      rw [h6 n (Nat.le_refl _)]; omega
theorem cnt_sum (P : Nat → Bool) (T : Nat) : ∀ n, sumN (fun j => if P j = true then 0 else T) n + T * cnt P n = T * n
  | 0 => by simp [sumN, cnt]
  | n + 1 => by
    show sumN (fun j => if P j = true then 0 else T) n + (if P n = true then 0 else T) + T * (cnt P n + if P n = true then 1 else 0) = T * (n + 1)
    have h := cnt_sum P T n
    rw [Nat.mul_add, Nat.mul_add]
    cases P n <;> simp <;> omega
theorem sumN_add (f g : Nat → Nat) : ∀ n, sumN (fun j => f j + g j) n = sumN f n + sumN g n
  | 0 => rfl
  | n + 1 => by
    show sumN (fun j => f j + g j) n + (f n + g n) = sumN f n + f n + (sumN g n + g n)
    rw [sumN_add f g n]; omega
theorem sumN_0 {f : Nat → Nat} : ∀ {n : Nat}, (∀ j, j < n → f j = 0) → sumN f n = 0
  | 0, _ => rfl
  | n + 1, h => by
    show sumN f n + f n = 0
    rw [sumN_0 fun j hj => h j (by omega), h n (by omega)]
theorem sumN_cut6 {n : Nat} (hn : n ≤ 6) {f : Nat → Nat} (h : ∀ j, n ≤ j → j < 6 → f j = 0) : sumN f 6 = sumN f n := by
  have key : ∀ d, n + d ≤ 6 → sumN f (n + d) = sumN f n := by
    intro d
    induction d with
    | zero => intro _; rfl
    | succ d ih =>
      intro hd
      show sumN f (n + d) + f (n + d) = _
      rw [ih (by omega), h (n + d) (by omega) (by omega)]; omega
  have := key (6 - n) (by omega)
  rwa [show n + (6 - n) = 6 by omega] at this
theorem dg_out {n : Nat} {E : Nat → Nat → Nat} (hG : Gr n E) {v : Nat} (hv : n ≤ v) : dg E v = 0 := sumN_0 fun j _ => hG.2.2.2.1 v j hv
theorem dg_le {n : Nat} {E : Nat → Nat → Nat} (hG : Gr n E) (v : Nat) : dg E v ≤ 15 := by
  rcases Nat.lt_or_ge v 6 with q | q
  · have h : ∀ j, E v j ≤ 3 := fun j => hG.2.2.2.2 v j
    have h0 := hG.2.2.1 v
    have h1 := h 0
    have h2 := h 1
    have h3 := h 2
    have h4 := h 3
    have h5 := h 4
    have h6 := h 5
    show 0 + E v 0 + E v 1 + E v 2 + E v 3 + E v 4 + E v 5 ≤ 15
    have hv : v = 0 ∨ v = 1 ∨ v = 2 ∨ v = 3 ∨ v = 4 ∨ v = 5 := by omega
    rcases hv with rfl | rfl | rfl | rfl | rfl | rfl <;> omega
  · rw [dg_out hG (by have := hG.1; omega)]; omega
/-- all topplings together -/
theorem leg_sum {n : Nat} {E : Nat → Nat → Nat} (hG : Gr n E) (hC : Conn n E) {z : Nat} (hz : z < n) {c g k : Nat → Nat} (h : Leg E z c g k) : sumN k 6 ≤ 15 * sumN c 6 := by
  have hn := hG.1
  have hk : sumN k 6 = sumN k n := sumN_cut6 hn fun j h1 h2 => h.2.2.2.2 j h2 (dg_out hG h1)
  rw [hk]
  have hL := leg_layers hG hC hz h
  have hb := leg_bound hG hC hz h
  generalize hT : sumN c 6 = T at hL hb ⊢
  have h1 : sumN k n ≤ sumN (fun j => (if decide (k j ≤ 0 * T) = true then 0 else T) + ((if decide (k j ≤ 1 * T) = true then 0 else T) + ((if decide (k j ≤ 2 * T) = true then 0 else T) + ((if decide (k j ≤ 3 * T) = true then 0 else T) + (if decide (k j ≤ 4 * T) = true then 0 else T))))) n := sumN_le fun j hj => by
    have := hb j hj
    simp only [decide_eq_true_eq]
    split <;> split <;> split <;> split <;> split <;> omega
  rw [sumN_add, sumN_add, sumN_add, sumN_add] at h1
  have c0 := cnt_sum (fun j => decide (k j ≤ 0 * T)) T n
  have c1 := cnt_sum (fun j => decide (k j ≤ 1 * T)) T n
  have c2 := cnt_sum (fun j => decide (k j ≤ 2 * T)) T n
  have c3 := cnt_sum (fun j => decide (k j ≤ 3 * T)) T n
  have c4 := cnt_sum (fun j => decide (k j ≤ 4 * T)) T n
  have m0 := Nat.mul_le_mul_left T (hL 0)
  have m1 := Nat.mul_le_mul_left T (hL 1)
  have m2 := Nat.mul_le_mul_left T (hL 2)
  have m3 := Nat.mul_le_mul_left T (hL 3)
  have m4 := Nat.mul_le_mul_left T (hL 4)
  generalize cnt (fun j => decide (k j ≤ 0 * T)) n = x0 at c0 m0
  generalize cnt (fun j => decide (k j ≤ 1 * T)) n = x1 at c1 m1
  generalize cnt (fun j => decide (k j ≤ 2 * T)) n = x2 at c2 m2
  generalize cnt (fun j => decide (k j ≤ 3 * T)) n = x3 at c3 m3
  generalize cnt (fun j => decide (k j ≤ 4 * T)) n = x4 at c4 m4
  have hn6 : n = 0 ∨ n = 1 ∨ n = 2 ∨ n = 3 ∨ n = 4 ∨ n = 5 ∨ n = 6 := by omega
  rcases hn6 with rfl | rfl | rfl | rfl | rfl | rfl | rfl <;> simp [Nat.min_def] at m0 m1 m2 m3 m4 <;> omega
theorem leg_T {n : Nat} {E : Nat → Nat → Nat} (hG : Gr n E) {z : Nat} {c g k : Nat → Nat} (h : Leg E z c g k) : sumN g 6 = sumN c 6 := by
  have h1 : sI (fun j => (g j : Int)) 6 = sI (fun j => (c j : Int) - Lap E (fun i => (k i : Int)) j) 6 := sI_congr fun j hj => leg_I hG h hj
  rw [sI_sub, Lap_sum hG, ← sumN_I, ← sumN_I] at h1
  omega
theorem leg_le {n : Nat} {E : Nat → Nat → Nat} (hG : Gr n E) {z : Nat} {c g k : Nat → Nat} (h : Leg E z c g k) {v : Nat} (hv : v < 6) : g v ≤ sumN c 6 := by
  rw [← leg_T hG h]; exact sumN_ge1 v hv
/-- two lawful ways one after the other -/
theorem leg_then {n : Nat} {E : Nat → Nat → Nat} (hG : Gr n E) {z : Nat} {c g k g' k' : Nat → Nat} (h : Leg E z c g k) (h' : Leg E z g g' k') : Leg E z c g' (fun j => k j + k' j) := by
  have hr : ∀ j, rcv E (fun i => k i + k' i) j = rcv E k j + rcv E k' j := fun j => by
    unfold rcv
    rw [← sumN_add]
    exact sumN_eq fun d _ => Nat.add_mul _ _ _
  refine ⟨fun j hj => ?_, by show k z + k' z = 0; rw [h.2.1, h'.2.1], fun w hw => ?_, fun q => h'.2.2.2.1 (h.2.2.2.1 q), fun j hj hd => by show k j + k' j = 0; rw [h.2.2.2.2 j hj hd, h'.2.2.2.2 j hj hd]⟩
  · rw [hr, Nat.mul_add]
    have := h.1 j hj
    have := h'.1 j hj
    omega
  · have h1 := h.2.2.1 w hw
    have h2 : Stb E z g (fun j => w j - k j) := fun j hj hjz hd => by
      have a1 := hw j hj hjz hd
      have a2 := h.1 j hj
      have a3 : rcv E (fun i => w i - k i) j + rcv E k j = rcv E w j := by
        unfold rcv
        rw [← sumN_add]
        exact sumN_eq fun d hd => by rw [← Nat.add_mul, Nat.sub_add_cancel (h1 d hd)]
      have a4 : dg E j * (w j - k j) + dg E j * k j = dg E j * w j := by rw [← Nat.mul_add, Nat.sub_add_cancel (h1 j hj)]
      show g j + rcv E (fun i => w i - k i) j < dg E j + dg E j * (w j - k j)
      omega
    intro j hj
    have := h'.2.2.1 _ h2 j hj
    have := h1 j hj
    show k j + k' j ≤ w j
    omega
/-- what stands after all of a set that can toppled once -/
def wvE (E : Nat → Nat → Nat) (B : Nat → Bool) (g : Nat → Nat) : Nat → Nat := fun j => g j - (if B j = true then dg E j else 0) + sumN (fun i => if B i = true then E i j else 0) 6
theorem wave_step {n : Nat} {E : Nat → Nat → Nat} (hG : Gr n E) {z : Nat} {B : Nat → Bool} {c g k : Nat → Nat} (hB : ∀ v, v < 6 → B v = true → v ≠ z ∧ 0 < dg E v ∧ dg E v ≤ g v) (h : Leg E z c g k) : ∃ g' k', Leg E z c g' k' ∧ (∀ j, j < 6 → g' j = wvE E B g j) ∧ (∀ j, j < 6 → k' j = k j + if B j = true then 1 else 0) := by
  have key : ∀ m, m ≤ 6 → ∃ g' k', Leg E z c g' k' ∧ (∀ j, j < 6 → g' j = g j - (if j < m ∧ B j = true then dg E j else 0) + sumN (fun i => if B i = true then E i j else 0) m) ∧ (∀ j, j < 6 → k' j = k j + if j < m ∧ B j = true then 1 else 0) := by
    intro m
    induction m with
    | zero => intro _; exact ⟨g, k, h, fun j _ => by rw [if_neg (by omega)]; rfl, fun j _ => by rw [if_neg (by omega)]; rfl⟩
    | succ m ih =>
      intro hm
      obtain ⟨g', k', hL, h1, h2⟩ := ih (by omega)
      cases hBm : B m
      · refine ⟨g', k', hL, fun j hj => ?_, fun j hj => ?_⟩
        · show g' j = _ + (sumN (fun i => if B i = true then E i j else 0) m + if B m = true then E m j else 0)
          rw [h1 j hj, hBm, if_neg (show ¬ false = true by decide)]
          by_cases hjm : j = m
          · subst hjm; simp [hBm]
          · simp only [show j < m + 1 ↔ j < m by omega]; rfl
        · rw [h2 j hj]
          by_cases hjm : j = m
          · subst hjm; simp [hBm]
          · simp only [show j < m + 1 ↔ j < m by omega]
      · obtain ⟨b1, b2, b3⟩ := hB m (by omega) hBm
        have h3 := h1 m (by omega)
        rw [if_neg (by omega)] at h3
        refine ⟨tpE E m 1 g', adv k' m 1, leg_step hG (by omega) b1 b2 (by omega) hL, fun j hj => ?_, fun j hj => ?_⟩
        · show _ = _ + (sumN (fun i => if B i = true then E i j else 0) m + if B m = true then E m j else 0)
          rw [if_pos hBm]
          unfold tpE
          by_cases hjm : j = m
          · subst hjm
            rw [if_pos rfl, if_pos ⟨by omega, hBm⟩, h3, hG.2.2.1 j]; omega
          · rw [if_neg hjm, h1 j hj]
            simp only [show j < m + 1 ↔ j < m by omega]; omega
        · unfold adv
          by_cases hjm : j = m
          · subst hjm
            rw [if_pos rfl, if_pos ⟨by omega, hBm⟩, h2 j hj, if_neg (by omega)]
          · rw [if_neg hjm, h2 j hj]
            simp only [show j < m + 1 ↔ j < m by omega]
  obtain ⟨g', k', hL, h1, h2⟩ := key 6 (Nat.le_refl _)
  exact ⟨g', k', hL, fun j hj => by rw [h1 j hj]; unfold wvE; simp only [hj, true_and], fun j hj => by rw [h2 j hj]; simp only [hj, true_and]⟩
/-- what settles from above the fullest settled pile, alike to the row, comes again: the finder -/
theorem find_rep {n : Nat} {E : Nat → Nat → Nat} (hG : Gr n E) (hC : Conn n E) (hn : 2 ≤ n) {z : Nat} (hz : z < n) {s k : Nat → Nat} (hL : Leg E z (fun v => if v = z then 0 else dg E v) s k) {r : Nat → Int} {m : Int} {c1 g k1 : Nat → Nat} (hm : 0 ≤ m) (hr : ∀ v, v < n → v ≠ z → (dg E v : Int) - 1 - r v ≤ m) (hs : Stl E z s) (hc1 : ∀ v, v < n → v ≠ z → ((c1 v : Nat) : Int) = r v + m * ((dg E v : Int) - s v)) (hL1 : Leg E z c1 g k1) (hS1 : Stl E z g) : Rep n E z r g := by
  have hn6 := hG.1
  have hlift : ∀ v, v < n → v ≠ z → 1 ≤ (dg E v : Int) - s v := fun v hv hvz => by
    have := hs v (by omega) hvz (conn_dg hG hC hn hv)
    omega
  refine ⟨hS1, hL1.2.2.2.1 (nfs_full hG hC hz fun v hv hvz => ?_), ?_⟩
  · have h1 := hc1 v hv hvz
    have h2 : m * 1 ≤ m * ((dg E v : Int) - s v) := Int.mul_le_mul_of_nonneg_left (hlift v hv hvz) hm
    rw [Int.mul_one] at h2
    have h3 := hr v hv hvz
    omega
  · refine ⟨fun i => (k1 i : Int) - m * (k i : Int), by simp [hL.2.1, hL1.2.1], fun v hv hvz => ?_⟩
    rw [Lap_sub]
    have h5 := leg_I hG hL1 (show v < 6 by omega)
    have h6 := leg_I hG hL (show v < 6 by omega)
    simp only [if_neg hvz] at h6
    have h7 : Lap E (fun i => m * (k i : Int)) v = m * Lap E (fun i => (k i : Int)) v := by
      unfold Lap
      rw [← sI_mul]
      exact sI_congr fun j _ => by rw [← Int.mul_sub, ← Int.mul_assoc, ← Int.mul_assoc, Int.mul_comm (E v j : Int)]
    rw [h7]
    have h8 := hc1 v hv hvz
    have h9 : m * ((dg E v : Int) - s v) = m * Lap E (fun i => (k i : Int)) v := by congr 1; omega
    show r v - ((g v : Nat) : Int) = _
    omega
/-- a pile that comes again, more put on it, settled -/
theorem rep_more {n : Nat} {E : Nat → Nat → Nat} (hG : Gr n E) {z : Nat} {r : Nat → Int} {g e c g' k : Nat → Nat} (h : Rep n E z r g) (hc : ∀ j, j < 6 → c j = g j + e j) (hL : Leg E z c g' k) (hS : Stl E z g') : Rep n E z (fun v => r v + e v) g' := by
  refine ⟨hS, hL.2.2.2.1 (nfs_up (fun j hj => by rw [hc j hj]; omega) h.2.1), ?_⟩
  obtain ⟨f, h0, h1⟩ := h.2.2
  obtain ⟨f2, g0, g1⟩ := leg_eqv hG hL
  refine ⟨fun j => f j + f2 j, by simp [h0, g0], fun v hv hvz => ?_⟩
  rw [Lap_add]
  have a1 : r v - ((g v : Nat) : Int) = Lap E f v := h1 v hv hvz
  have a2 : ((c v : Nat) : Int) - ((g' v : Nat) : Int) = Lap E f2 v := g1 v hv hvz
  have a3 := hc v (by have := hG.1; omega)
  show r v + (e v : Int) - ((g' v : Nat) : Int) = _
  omega
/-- a row that lies above the fullest settled pile, settled -/
theorem rep_high {n : Nat} {E : Nat → Nat → Nat} (hG : Gr n E) (hC : Conn n E) {z : Nat} (hz : z < n) {c g k : Nat → Nat} (h : ∀ v, v < n → v ≠ z → dg E v ≤ c v + 1) (hL : Leg E z c g k) (hS : Stl E z g) : Rep n E z (fun v => (c v : Int)) g :=
  ⟨hS, hL.2.2.2.1 (nfs_full hG hC hz h), leg_eqv hG hL⟩
