/-! WAVES: class and law count the same -/
def canB2 (E : Nat → Nat → Nat) (z : Nat) (g : Nat → Nat) (v : Nat) : Bool := decide (v ≠ z) && (decide (0 < dg E v) && decide (dg E v ≤ g v))
theorem canB2_iff {E : Nat → Nat → Nat} {z : Nat} {g : Nat → Nat} {v : Nat} : canB2 E z g v = true ↔ canN E z g v := by
  unfold canB2 canN
  rw [Bool.and_eq_true, Bool.and_eq_true, decide_eq_true_eq, decide_eq_true_eq, decide_eq_true_eq]
/-- the topplings of a wave up to i -/
def wvK (E : Nat → Nat → Nat) (z : Nat) (g k : Nat → Nat) (i : Nat) : Nat → Nat := fun j => k j + if j < i ∧ canB2 E z g j = true then 1 else 0
theorem wvK_s {E : Nat → Nat → Nat} {z : Nat} {g k : Nat → Nat} {i : Nat} : ∀ j, wvK E z g k (i + 1) j = if canB2 E z g i = true then adv (wvK E z g k i) i 1 j else wvK E z g k i j := by
  intro j
  unfold wvK adv
  by_cases hc : canB2 E z g i = true
  · rw [if_pos hc]
    show (k j + if j < i + 1 ∧ canB2 E z g j = true then 1 else 0) = (if j = i then (k i + if i < i ∧ canB2 E z g i = true then 1 else 0) + 1 else k j + if j < i ∧ canB2 E z g j = true then 1 else 0)
    by_cases hj : j = i
    · subst hj
      rw [if_pos rfl, if_pos (show j < j + 1 ∧ canB2 E z g j = true from ⟨by omega, hc⟩), if_neg (fun q : j < j ∧ canB2 E z g j = true => absurd q.1 (by omega))]
    · rw [if_neg hj]
      by_cases h : j < i ∧ canB2 E z g j = true
      · rw [if_pos h, if_pos ⟨by omega, h.2⟩]
      · rw [if_neg h, if_neg (fun q => h ⟨by omega, q.2⟩)]
  · rw [if_neg hc]
    by_cases h : j < i ∧ canB2 E z g j = true
    · rw [if_pos h, if_pos ⟨by omega, h.2⟩]
    · rw [if_neg h, if_neg (fun q => h ⟨by
        by_cases hj : j = i
        · subst hj; exact absurd q.2 hc
        · omega, q.2⟩)]
theorem wvK_f {E : Nat → Nat → Nat} {z : Nat} {g k : Nat → Nat} {i : Nat} : wvK E z g k (i + 1) = if canB2 E z g i = true then adv (wvK E z g k i) i 1 else wvK E z g k i := by
  funext j
  rw [wvK_s j]
  split <;> rfl
theorem wvK_0 {E : Nat → Nat → Nat} {z : Nat} {g k : Nat → Nat} : wvK E z g k 0 = k := by
  funext j
  unfold wvK
  rw [if_neg (by omega), Nat.add_zero]
theorem wvK_le {E : Nat → Nat → Nat} {z : Nat} {g k : Nat → Nat} (i j : Nat) : k j ≤ wvK E z g k i j := Nat.le_add_right _ _
theorem wvK_lt {E : Nat → Nat → Nat} {z : Nat} {g k : Nat → Nat} {n v : Nat} (hn : n ≤ 6) (hv : v < n) (hc : canB2 E z g v = true) : sumN k 6 < sumN (wvK E z g k n) 6 := by
  have h1 : sumN (adv k v 1) 6 ≤ sumN (wvK E z g k n) 6 := sumN_le fun j _ => by
    unfold adv
    by_cases h : j = v
    · subst h
      rw [if_pos rfl]
      unfold wvK
      rw [if_pos ⟨hv, hc⟩]
      exact Nat.le_refl _
    · rw [if_neg h]; exact wvK_le n j
  rw [sumN_adv1 _ _ _ _ (by omega)] at h1
  omega
/-- who is in the class's wave -/
theorem wvM_bit {z : Nat} {fd f : Nat → Int32} : ∀ n, n ≤ 6 → ∀ x, x < 6 → bitI (wvM z fd f n) x = (decide (x < n) && cTop z fd f x)
  | 0, _, x, hx => by
    show bitI 0 x = _
    rw [bitI_0 hx]; simp
  | n + 1, hn, x, hx => by
    have ih := wvM_bit (z := z) (fd := fd) (f := f) n (by omega) x hx
    have e : wvM z fd f (n + 1) = if cTop z fd f n = true then wvM z fd f n ||| (1 <<< (nI n &&& 31)) else wvM z fd f n := rfl
    rw [e]
    by_cases hxn : x = n
    · subst hxn
      rw [show decide (x < x + 1) = true from decide_eq_true (by omega), Bool.true_and]
      rw [show decide (x < x) = false from decide_eq_false (Nat.lt_irrefl _), Bool.false_and] at ih
      by_cases hc : cTop z fd f x = true
      · rw [if_pos hc, bitI_or _ _ hx, ih, bitI_1 hx hx, hc, decide_eq_true rfl]; rfl
      · rw [if_neg hc, ih]; exact (Bool.eq_false_iff.mpr hc).symm
    · rw [show decide (x < n + 1) = decide (x < n) by rw [decide_eq_decide]; omega]
      by_cases hc : cTop z fd f n = true
      · rw [if_pos hc, bitI_or _ _ hx, ih, bitI_1 hx (by omega), decide_eq_false hxn, Bool.or_false]
      · rw [if_neg hc, ih]
theorem wvM_0 {z : Nat} {fd f : Nat → Int32} : ∀ n, (∀ v, v < n → cTop z fd f v = false) → wvM z fd f n = 0
  | 0, _ => rfl
  | n + 1, h => by
    have e : wvM z fd f (n + 1) = if cTop z fd f n = true then wvM z fd f n ||| (1 <<< (nI n &&& 31)) else wvM z fd f n := rfl
    rw [e, if_neg (by rw [h n (by omega)]; decide)]
    exact wvM_0 n fun v hv => h v (by omega)
/-- the class's state without its topplings -/
def Cf3 (z : Nat) (ct0 : Nat → Int32) (tk0 : Int32) (S : (Nat → Int32) × (Nat → Int32) × Int32) (g k : Nat → Nat) : Prop := Cfg z ct0 tk0 (S.1, S.2.1, S.2.2, nI (sumN k 6)) g k
theorem cTop_can {n : Nat} {E : Nat → Nat → Nat} (hG : Gr n E) {z : Nat} {ct0 : Nat → Int32} {tk0 : Int32} {S : (Nat → Int32) × (Nat → Int32) × Int32} {g k : Nat → Nat} (h : Cf3 z ct0 tk0 S g k) (hb : ∀ j, j < 6 → g j < 2 ^ 30) {v : Nat} (hv : v < 6) : cTop z (fdE E) S.1 v = canB2 E z g v := by
  by_cases hvz : v = z
  · have h1 : cTop z (fdE E) S.1 v = false := by
      unfold cTop
      rw [show decide (¬ v = z) = false from decide_eq_false (fun q => q hvz)]; rfl
    have h2 : canB2 E z g v = false := by
      unfold canB2
      rw [show decide (v ≠ z) = false from decide_eq_false (fun q => q hvz)]; rfl
    rw [h1, h2]
  · have hf : S.1 v = nI (g v) := by have := h.1 v hv; rw [if_neg hvz] at this; exact this
    have h1 := cTop_iff hG.2.2.2.2 (z := z) hf (by have := hb v hv; omega)
    have h2 := canB2_iff (E := E) (z := z) (g := g) (v := v)
    unfold canN at h2
    cases hA : cTop z (fdE E) S.1 v <;> cases hB : canB2 E z g v
    · rfl
    · rw [hA] at h1; rw [hB] at h2
      exact absurd (h1.mpr (h2.mp rfl)) (by decide)
    · rw [hA] at h1; rw [hB] at h2
      exact absurd (h2.mpr (h1.mp rfl)) (by decide)
    · rfl
theorem wvS_go {n : Nat} {E : Nat → Nat → Nat} (hG : Gr n E) {z : Nat} (hz : z < n) {ct0 : Nat → Int32} {tk0 : Int32} {S : (Nat → Int32) × (Nat → Int32) × Int32} {c g k : Nat → Nat} (hT : sumN c 6 < 2 ^ 30) (h : Cf3 z ct0 tk0 S g k) (hL : Leg E z c g k) : ∀ i, i ≤ n →
    ∃ g', Cf3 z ct0 tk0 (wvS n z (fjE E) (fdE E) (wvM z (fdE E) S.1 n) S i) g' (wvK E z g k i) ∧ Leg E z c g' (wvK E z g k i) ∧ ∀ j, i ≤ j → g j ≤ g' j
  | 0, _ => ⟨g, by rw [wvK_0]; exact h, by rw [wvK_0]; exact hL, fun j _ => Nat.le_refl _⟩
  | i + 1, hi => by
    have hn := hG.1
    obtain ⟨g1, a1, a2, a3⟩ := wvS_go hG hz hT h hL i (by omega)
    have hb : ∀ j, j < 6 → g j < 2 ^ 30 := fun j hj => by have := leg_le hG hL hj; omega
    have hbit : bitI (wvM z (fdE E) S.1 n) i = canB2 E z g i := by
      rw [wvM_bit n hn i (by omega), show decide (i < n) = true from decide_eq_true (by omega), Bool.true_and, cTop_can hG h hb (by omega)]
    have e : wvS n z (fjE E) (fdE E) (wvM z (fdE E) S.1 n) S (i + 1) = if ((wvM z (fdE E) S.1 n >>> (nI i &&& 31)) &&& 1) = 1 then (tpF z (fjE E) 1 i (upd (wvS n z (fjE E) (fdE E) (wvM z (fdE E) S.1 n) S i).1 i ((wvS n z (fjE E) (fdE E) (wvM z (fdE E) S.1 n) S i).1 i + (-1) * fdE E i)) n, upd (wvS n z (fjE E) (fdE E) (wvM z (fdE E) S.1 n) S i).2.1 i ((wvS n z (fjE E) (fdE E) (wvM z (fdE E) S.1 n) S i).2.1 i + 1), tpT z (fjE E) 1 i (wvS n z (fjE E) (fdE E) (wvM z (fdE E) S.1 n) S i).2.2 n) else wvS n z (fjE E) (fdE E) (wvM z (fdE E) S.1 n) S i := rfl
    rw [e, wvK_f]
    by_cases hc : canB2 E z g i = true
    · have hcb : ((wvM z (fdE E) S.1 n >>> (nI i &&& 31)) &&& 1) = 1 := by
        rw [hc] at hbit
        exact of_decide_eq_true hbit
      obtain ⟨c1, c2, c3⟩ := canB2_iff.mp hc
      rw [if_pos hcb, if_pos hc]
      have hle : 1 * dg E i ≤ g1 i := by have := a3 i (Nat.le_refl _); omega
      have h5 := cfg_top hG hz (show i < n by omega) a1 c1 hle
      refine ⟨tpE E i 1 g1, ⟨h5.1, h5.2.1, h5.2.2.1, ?_⟩, leg_step hG (by omega) c1 c2 hle a2, fun j hj => ?_⟩
      · rfl
      · unfold tpE
        rw [if_neg (by omega)]
        have := a3 j (by omega)
        omega
    · have hcb : ¬ ((wvM z (fdE E) S.1 n >>> (nI i &&& 31)) &&& 1) = 1 := by
        rw [Bool.eq_false_iff.mpr hc] at hbit
        exact of_decide_eq_false hbit
      rw [if_neg hcb, if_neg hc]
      exact ⟨g1, a1, a2, fun j hj => a3 j (by omega)⟩
/-- the law's pile -/
def Cfp (z : Nat) (x0 : Int32) (p : Nat → Int32) (g : Nat → Nat) : Prop := (∀ j, j < 6 → j ≠ z → p j = nI (g j)) ∧ p z = x0 + nI (g z)
theorem wnS_go {n : Nat} {E : Nat → Nat → Nat} (hG : Gr n E) (hC : Conn n E) (hn2 : 2 ≤ n) {z : Nat} (hz : z < n) {x0 : Int32} {p : Nat → Int32} {c g k : Nat → Nat} (hT : sumN c 6 < 2 ^ 30) (h : Cfp z x0 p g) (hL : Leg E z c g k) : ∀ i, i ≤ n →
    (∃ g', Cfp z x0 (wnS E z p i).1 g' ∧ Leg E z c g' (wvK E z g k i) ∧ ∀ j, i ≤ j → g j ≤ g' j) ∧ ((wnS E z p i).2 = true ↔ ∃ v, v < i ∧ canB2 E z g v = true)
  | 0, _ => ⟨⟨g, h, by rw [wvK_0]; exact hL, fun j _ => Nat.le_refl _⟩, ⟨(fun q => absurd q Bool.false_ne_true), fun ⟨v, hv, _⟩ => absurd hv (Nat.not_lt_zero _)⟩⟩
  | i + 1, hi => by
    have hn := hG.1
    obtain ⟨⟨g1, a1, a2, a3⟩, a4⟩ := wnS_go hG hC hn2 hz hT h hL i (by omega)
    have hb := leg_le hG hL (show i < 6 by omega)
    have hd0 := conn_dg hG hC hn2 (show i < n by omega)
    have hd18 := dg18 hG.2.2.2.2 i
    by_cases hc : canB2 E z g i = true
    · obtain ⟨c1, c2, c3⟩ := canB2_iff.mp hc
      have hp : ¬ p i < nI (dg E i) := by
        rw [h.1 i (by omega) c1, nI_ltI (by omega) (by omega)]; omega
      rw [wn_y c1 hp, wvK_f, if_pos hc]
      have hle : 1 * dg E i ≤ g1 i := by have := a3 i (Nat.le_refl _); omega
      have hS : Cfl z x0 (fun _ => 0) ((wnS E z p i).1, fun j => nI ((fun _ => 0 : Nat → Nat) j), nI (sumN (fun _ => 0 : Nat → Nat) 6)) g1 (fun _ => 0) := ⟨a1.1, a1.2, fun j _ => by rw [Int32.zero_add], rfl⟩
      have h5 := cfl_top hG hz (show i < n by omega) hS c1 (by omega)
      refine ⟨⟨tpE E i 1 g1, ⟨h5.1, h5.2.1⟩, leg_step hG (by omega) c1 c2 hle a2, fun j hj => ?_⟩, ⟨fun _ => ⟨i, by omega, hc⟩, fun _ => rfl⟩⟩
      unfold tpE
      rw [if_neg (by omega)]
      have := a3 j (by omega)
      omega
    · have hp : i = z ∨ p i < nI (dg E i) := by
        by_cases hiz : i = z
        · exact Or.inl hiz
        · right
          rw [h.1 i (by omega) hiz, nI_ltI (by omega) (by omega)]
          rcases Nat.lt_or_ge (g i) (dg E i) with q | q
          · exact q
          · exact absurd (canB2_iff.mpr ⟨hiz, hd0, q⟩) hc
      rw [wn_n hp, wvK_f, if_neg hc]
      refine ⟨⟨g1, a1, a2, fun j hj => a3 j (by omega)⟩, a4.trans ⟨fun ⟨v, hv, q⟩ => ⟨v, by omega, q⟩, fun ⟨v, hv, q⟩ => ?_⟩⟩
      by_cases hvi : v = i
      · subst hvi; exact absurd q hc
      · exact ⟨v, by omega, q⟩
theorem wnS_id {E : Nat → Nat → Nat} {z : Nat} {p : Nat → Int32} : ∀ i, (wnS E z p i).2 = false → (wnS E z p i).1 = p
  | 0, _ => rfl
  | i + 1, h => by
    by_cases hp : i = z ∨ p i < nI (dg E i)
    · rw [wn_n hp] at h ⊢
      exact wnS_id i h
    · rw [wn_y (fun q => hp (Or.inl q)) (fun q => hp (Or.inr q))] at h
      cases h
theorem waves_go {n : Nat} {E : Nat → Nat → Nat} (hG : Gr n E) (hC : Conn n E) (hn2 : 2 ≤ n) {z : Nat} (hz : z < n) {ct0 : Nat → Int32} {tk0 x0 : Int32} {c : Nat → Nat} (hT : 15 * sumN c 6 < 2 ^ 30) : ∀ r (S : (Nat → Int32) × (Nat → Int32) × Int32) (p : Nat → Int32) (g k : Nat → Nat), Cf3 z ct0 tk0 S g k → Cfp z x0 p g → Leg E z c g k → 15 * sumN c 6 ≤ r + sumN k 6 →
    ∃ w g' k' p', Leg E z c g' k' ∧ Stl E z g' ∧ Cfp z x0 p' g' ∧ (∀ r1 a, r ≤ r1 → wvN n z (fjE E) (fdE E) r1 a S = a + w) ∧ ∀ r2 a, r + 1 ≤ r2 → wvR E n z r2 (p, a, true) = (p', a + w, false) := by
  have fin : ∀ (S : (Nat → Int32) × (Nat → Int32) × Int32) (p : Nat → Int32) (g k : Nat → Nat), Cf3 z ct0 tk0 S g k → Cfp z x0 p g → Leg E z c g k → (∀ v, v < n → canB2 E z g v = false) → ∃ w g' k' p', Leg E z c g' k' ∧ Stl E z g' ∧ Cfp z x0 p' g' ∧ (∀ r1 a, wvN n z (fjE E) (fdE E) r1 a S = a + w) ∧ ∀ r2 a, 1 ≤ r2 → wvR E n z r2 (p, a, true) = (p', a + w, false) := by
    intro S p g k h1 h2 hL hno
    have hb : ∀ j, j < 6 → g j < 2 ^ 30 := fun j hj => by have := leg_le hG hL hj; omega
    have hn := hG.1
    have hM : wvM z (fdE E) S.1 n = 0 := wvM_0 n fun v hv => by rw [cTop_can hG h1 hb (by omega)]; exact hno v hv
    have hm : (wnS E z p n).2 = false := Bool.eq_false_iff.mpr fun q => by
      obtain ⟨v, hv, hq⟩ := (wnS_go hG hC hn2 hz (by omega) h2 hL n (Nat.le_refl _)).2.mp q
      rw [hno v hv] at hq; cases hq
    have hid := wnS_id n hm
    refine ⟨0, g, k, p, hL, fun j hj hjz hd => ?_, h2, fun r1 a => ?_, fun r2 a hr2 => ?_⟩
    · have hjn : j < n := by
        rcases Nat.lt_or_ge j n with q | q
        · exact q
        · rw [dg_out hG q] at hd; exact absurd hd (Nat.lt_irrefl _)
      rcases Nat.lt_or_ge (g j) (dg E j) with q | q
      · exact q
      · have := hno j hjn
        rw [canB2_iff.mpr ⟨hjz, hd, q⟩] at this; cases this
    · cases r1 with
      | zero => rfl
      | succ q =>
        show (if wvM z (fdE E) S.1 n = 0 then a else _) = a
        rw [if_pos hM]
    · obtain ⟨q, rfl⟩ : ∃ q, r2 = q + 1 := ⟨r2 - 1, by omega⟩
      have e : wvR E n z (q + 1) (p, a, true) = wvR E n z q ((wnS E z p n).1, if (wnS E z p n).2 = true then a + 1 else a, (wnS E z p n).2) := if_pos rfl
      rw [e, hm, hid]
      cases q with
      | zero => rfl
      | succ q => rfl
  intro r
  induction r with
  | zero =>
    intro S p g k h1 h2 hL hr
    have hno : ∀ v, v < n → canB2 E z g v = false := fun v hv => Bool.eq_false_iff.mpr fun hc => by
      obtain ⟨g', -, a2, -⟩ := wvS_go hG hz (by omega) h1 hL n (Nat.le_refl _)
      have := leg_sum hG hC hz a2
      have := wvK_lt (k := k) hG.1 hv hc
      omega
    obtain ⟨w, g', k', p', b1, b2, b3, b4, b5⟩ := fin S p g k h1 h2 hL hno
    exact ⟨w, g', k', p', b1, b2, b3, fun r1 a _ => b4 r1 a, fun r2 a h => b5 r2 a h⟩
  | succ r ih =>
    intro S p g k h1 h2 hL hr
    by_cases hex : ∃ v, v < n ∧ canB2 E z g v = true
    · obtain ⟨v, hv, hc⟩ := hex
      have hn := hG.1
      have hb : ∀ j, j < 6 → g j < 2 ^ 30 := fun j hj => by have := leg_le hG hL hj; omega
      obtain ⟨g1, a1, a2, -⟩ := wvS_go hG hz (by omega) h1 hL n (Nat.le_refl _)
      obtain ⟨⟨g2, c1, c2, -⟩, c4⟩ := wnS_go hG hC hn2 hz (by omega) h2 hL n (Nat.le_refl _)
      have hg : ∀ j, j < 6 → g1 j = g2 j := fun j hj => by
        have e1 := a2.1 j hj
        have e2 := c2.1 j hj
        omega
      have c1' : Cfp z x0 (wnS E z p n).1 g1 := ⟨fun j hj hjz => by rw [hg j hj]; exact c1.1 j hj hjz, by rw [hg z (by omega)]; exact c1.2⟩
      have hlt := wvK_lt (k := k) hG.1 hv hc
      have hm : (wnS E z p n).2 = true := c4.mpr ⟨v, hv, hc⟩
      have hM : ¬ wvM z (fdE E) S.1 n = 0 := fun q => by
        have h5 := wvM_bit (z := z) (fd := fdE E) (f := S.1) n hn v (by omega)
        rw [q, bitI_0 (by omega), show decide (v < n) = true from decide_eq_true hv, Bool.true_and, cTop_can hG h1 hb (by omega), hc] at h5
        cases h5
      obtain ⟨w, g', k', p', b1, b2, b3, b4, b5⟩ := ih _ _ g1 _ a1 c1' a2 (by omega)
      refine ⟨w + 1, g', k', p', b1, b2, b3, fun r1 a hr1 => ?_, fun r2 a hr2 => ?_⟩
      · obtain ⟨q, rfl⟩ : ∃ q, r1 = q + 1 := ⟨r1 - 1, by omega⟩
        have e : wvN n z (fjE E) (fdE E) (q + 1) a S = wvN n z (fjE E) (fdE E) q (a + 1) (wvS n z (fjE E) (fdE E) (wvM z (fdE E) S.1 n) S n) := if_neg hM
        rw [e, b4 q (a + 1) (by omega)]; omega
      · obtain ⟨q, rfl⟩ : ∃ q, r2 = q + 1 := ⟨r2 - 1, by omega⟩
        have e : wvR E n z (q + 1) (p, a, true) = wvR E n z q ((wnS E z p n).1, if (wnS E z p n).2 = true then a + 1 else a, (wnS E z p n).2) := if_pos rfl
        rw [e, hm, if_pos rfl, b5 q (a + 1) (by omega)]
        rw [show a + 1 + w = a + (w + 1) by omega]
    · obtain ⟨w, g', k', p', b1, b2, b3, b4, b5⟩ := fin S p g k h1 h2 hL fun v hv => Bool.eq_false_iff.mpr fun q => hex ⟨v, hv, q⟩
      exact ⟨w, g', k', p', b1, b2, b3, fun r1 a _ => b4 r1 a, fun r2 a h => b5 r2 a (by omega)⟩
