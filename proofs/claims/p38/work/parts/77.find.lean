/-! THE FINDER: the pile that comes again and is alike to a row; the unit -/
theorem rcvF_at {z : Nat} {g f : Nat → Int32} : ∀ n j, rcvF z g f n j = if j < n ∧ j ≠ z then f j + g j else f j
  | 0, j => by rw [if_neg (by omega)]; rfl
  | n + 1, j => by
    have ih := rcvF_at (z := z) (g := g) (f := f) n
    have e : rcvF z g f (n + 1) = if n = z then rcvF z g f n else upd (rcvF z g f n) n (rcvF z g f n n + g n) := rfl
    rw [e]
    by_cases hnz : n = z
    · rw [if_pos hnz, ih j]
      by_cases h : j < n ∧ j ≠ z
      · rw [if_pos h, if_pos ⟨by omega, h.2⟩]
      · rw [if_neg h, if_neg (by omega)]
    · rw [if_neg hnz]
      by_cases hj : j = n
      · subst hj
        rw [upd_s, ih j, if_neg (by omega), if_pos ⟨by omega, hnz⟩]
      · rw [upd_n _ _ hj, ih j]
        by_cases h : j < n ∧ j ≠ z
        · rw [if_pos h, if_pos ⟨by omega, h.2⟩]
        · rw [if_neg h, if_neg (by omega)]
/-- a start of chips at the others, as the class makes it -/
theorem rcv_cfg {n : Nat} (hn : n ≤ 6) {z : Nat} {x : Nat → Int32} {c : Nat → Nat} (hc : ∀ v, v < n → v ≠ z → x v = nI (c v)) (h0 : c z = 0) (hout : ∀ v, n ≤ v → c v = 0) : ∀ j, j < 6 → rcvF z x (fun _ => 0) n j = nI (c j) := fun j hj => by
  rw [rcvF_at]
  by_cases h : j < n ∧ j ≠ z
  · rw [if_pos h, Int32.zero_add, hc j h.1 h.2]
  · rw [if_neg h]
    by_cases hz : j = z
    · rw [hz, h0]; rfl
    · rw [hout j (by omega)]; rfl
theorem sum_le5 {c : Nat → Nat} {n z b : Nat} (hn : n ≤ 6) (hz : z < n) (h0 : c z = 0) (hout : ∀ v, n ≤ v → c v = 0) (h : ∀ v, v < n → c v ≤ b) : sumN c 6 ≤ 5 * b := by
  have hb : ∀ v, v < 6 → c v ≤ if v = z then 0 else b := fun v hv => by
    by_cases e : v = z
    · rw [if_pos e, e, h0]; exact Nat.le_refl _
    · rw [if_neg e]
      rcases Nat.lt_or_ge v n with q | q
      · exact h v q
      · rw [hout v q]; exact Nat.zero_le _
  refine Nat.le_trans (sumN_le (n := 6) fun v hv => hb v hv) ?_
  show 0 + (if 0 = z then 0 else b) + (if 1 = z then 0 else b) + (if 2 = z then 0 else b) + (if 3 = z then 0 else b) + (if 4 = z then 0 else b) + (if 5 = z then 0 else b) ≤ 5 * b
  rcases (show z = 0 ∨ z = 1 ∨ z = 2 ∨ z = 3 ∨ z = 4 ∨ z = 5 by omega) with rfl | rfl | rfl | rfl | rfl | rfl <;> simp <;> omega
def oDg (n : Nat) (E : Nat → Nat → Nat) (z : Nat) (v : Nat) : Nat := if v = z then 0 else dg E v
theorem fdS_go {n : Nat} {E : Nat → Nat → Nat} (hG : Gr n E) (hC : Conn n E) {z : Nat} (hz : z < n) : ∃ s k, Leg E z (oDg n E z) s k ∧ Stl E z s ∧ ∀ j, j < 6 → (fdS n z (fjE E) (fdE E)).1 j = nI (if j = z then 0 else s j) := by
  have hn := hG.1
  have h0 : oDg n E z z = 0 := if_pos rfl
  have hout : ∀ v, n ≤ v → oDg n E z v = 0 := fun v hv => by
    unfold oDg
    split
    · rfl
    · exact dg_out hG hv
  have hT := sum_le5 (b := 15) hn hz h0 hout fun v _ => by
    unfold oDg
    split
    · omega
    · exact dg_le hG v
  obtain ⟨s, k, h1, h2, h3⟩ := settle_cls hG hC hz (ord_lo (n := n)).1 ord_lo.2 h0 (by omega) (ct := fun _ => 0) (tk := rcvT z (fdE E) 0 n) (rcv_cfg hn (x := fdE E) (c := oDg n E z) (fun v _ hvz => by show nI (dg E v) = nI (if v = z then 0 else dg E v); rw [if_neg hvz]) h0 hout)
  exact ⟨s, k, h2, h3, h1.1⟩
theorem lft_go {E : Nat → Nat → Nat} (hE : ∀ i j, E i j ≤ 3) {z : Nat} {r : Nat → Int} {fr : Nat → Int32} {b : Int} (hb0 : 0 ≤ b) (hb : b ≤ 100000) : ∀ n, n ≤ 6 → (∀ v, v < n → v ≠ z → fr v = iI (r v) ∧ (dg E v : Int) - 1 - r v ≤ b ∧ -100000 ≤ (dg E v : Int) - 1 - r v) →
    ∃ m : Int, lftI z (fdE E) fr n = iI m ∧ 0 ≤ m ∧ m ≤ b ∧ ∀ v, v < n → v ≠ z → (dg E v : Int) - 1 - r v ≤ m
  | 0, _, _ => ⟨0, rfl, Int.le_refl _, hb0, fun v h => absurd h (Nat.not_lt_zero _)⟩
  | n + 1, hn, hr => by
    obtain ⟨m, a1, a2, a3, a4⟩ := lft_go hE hb0 hb n (by omega) fun v hv => hr v (by omega)
    have e : lftI z (fdE E) fr (n + 1) = if n = z then lftI z (fdE E) fr n else if lftI z (fdE E) fr n < fdE E n - 1 - fr n then fdE E n - 1 - fr n else lftI z (fdE E) fr n := rfl
    rw [e]
    by_cases hnz : n = z
    · rw [if_pos hnz]
      exact ⟨m, a1, a2, a3, fun v hv hvz => a4 v (by omega) hvz⟩
    · rw [if_neg hnz]
      obtain ⟨b1, b2, b3⟩ := hr n (by omega) hnz
      have hx : fdE E n - 1 - fr n = iI ((dg E n : Int) - 1 - r n) := by
        rw [b1]
        show nI (dg E n) - 1 - iI (r n) = _
        rw [← iI_n, show (1 : Int32) = iI 1 by decide, iI_sub, iI_sub]
      rw [hx, a1]
      by_cases hlt : iI m < iI ((dg E n : Int) - 1 - r n)
      · rw [if_pos hlt]
        have := (iI_lt (by omega) (by omega) (by omega) (by omega)).mp hlt
        refine ⟨_, rfl, by omega, b2, fun v hv hvz => ?_⟩
        by_cases hv2 : v = n
        · subst hv2; exact Int.le_refl _
        · have := a4 v (by omega) hvz; omega
      · rw [if_neg hlt]
        have hlt2 : ¬ m < (dg E n : Int) - 1 - r n := fun q => hlt ((iI_lt (by omega) (by omega) (by omega) (by omega)).mpr q)
        refine ⟨m, rfl, a2, a3, fun v hv hvz => ?_⟩
        by_cases hv2 : v = n
        · subst hv2; omega
        · exact a4 v (by omega) hvz
theorem stl_out {n : Nat} {E : Nat → Nat → Nat} (hG : Gr n E) {z : Nat} {c g k : Nat → Nat} (h : Leg E z c g k) {j : Nat} (hj : j < 6) (hn : n ≤ j) : g j = c j := by
  have h1 := h.1 j hj
  have h2 : rcv E k j = 0 := sumN_0 fun i _ => by rw [hG.2.1 i j, hG.2.2.2.1 j i hn, Nat.mul_zero]
  rw [dg_out hG hn, Nat.zero_mul, h2] at h1
  exact h1
/-- the finder finds the pile that comes again and is alike to r -/
theorem fdR_goB {n : Nat} {E : Nat → Nat → Nat} (hG : Gr n E) (hC : Conn n E) (hn2 : 2 ≤ n) {z : Nat} (hz : z < n) {r : Nat → Int} {fr : Nat → Int32} (hr : ∀ v, v < n → v ≠ z → fr v = iI (r v) ∧ -800 ≤ r v ∧ r v ≤ 800 ∧ (dg E v : Int) - 1 - r v ≤ 800) :
    ∃ g, Rep n E z r g ∧ (∀ v, v < n → v ≠ z → g v < dg E v) ∧ (∀ j, j < 6 → (fdR n z (fjE E) (fdE E) fr).1 j = nI (if j = z then 0 else g j)) ∧ ∀ j, j < 6 → n ≤ j → g j = 0 := by
  have hn := hG.1
  obtain ⟨s, k, hL, hS, hs⟩ := fdS_go hG hC hz
  obtain ⟨m, m1, m2, m3, m4⟩ := lft_go hG.2.2.2.2 (z := z) (r := r) (fr := fr) (b := 800) (by omega) (by omega) n hn fun v hv hvz => ⟨(hr v hv hvz).1, (hr v hv hvz).2.2.2, by have := hr v hv hvz; omega⟩
  have hsd : ∀ v, v < n → v ≠ z → s v + 1 ≤ dg E v := fun v hv hvz => hS v (by omega) hvz (conn_dg hG hC hn2 hv)
  have hd15 := fun v => dg_le hG v
  let y : Nat → Int := fun v => r v + m * ((dg E v : Int) - s v)
  have hy : ∀ v, v < n → v ≠ z → 0 ≤ y v ∧ y v ≤ 12800 := fun v hv hvz => by
    have h1 := hsd v hv hvz
    have h2 := m4 v hv hvz
    have h3 := hr v hv hvz
    have h4 := hd15 v
    have h5 : m * 1 ≤ m * ((dg E v : Int) - s v) := Int.mul_le_mul_of_nonneg_left (by omega) m2
    have h6 : m * ((dg E v : Int) - s v) ≤ m * 15 := Int.mul_le_mul_of_nonneg_left (by omega) m2
    show 0 ≤ r v + m * ((dg E v : Int) - s v) ∧ r v + m * ((dg E v : Int) - s v) ≤ 12800
    omega
  let c : Nat → Nat := fun v => if v < n ∧ v ≠ z then (y v).toNat else 0
  have hcv : ∀ v, v < n → v ≠ z → ((c v : Nat) : Int) = y v := fun v hv hvz => by
    show (((if v < n ∧ v ≠ z then (y v).toNat else 0 : Nat)) : Int) = _
    rw [if_pos ⟨hv, hvz⟩]
    have := hy v hv hvz
    omega
  have h0 : c z = 0 := if_neg (fun q => q.2 rfl)
  have hout : ∀ v, n ≤ v → c v = 0 := fun v hv => if_neg (by omega)
  have hT := sum_le5 (b := 12800) hn hz h0 hout fun v hv => by
    by_cases hvz : v = z
    · rw [hvz, h0]; omega
    · have := hcv v hv hvz
      have := hy v hv hvz
      omega
  have hx : ∀ v, v < n → v ≠ z → fdX n z (fjE E) (fdE E) fr v = nI (c v) := fun v hv hvz => by
    show fr v + lftI z (fdE E) fr n * (fdE E v - (fdS n z (fjE E) (fdE E)).1 v) = _
    rw [(hr v hv hvz).1, m1, hs v (by omega), if_neg hvz]
    show iI (r v) + iI m * (nI (dg E v) - nI (s v)) = _
    rw [← iI_n, ← iI_n, iI_sub, iI_mul, iI_add, ← iI_n, hcv v hv hvz]
  obtain ⟨g, k1, h1, h2, h3⟩ := settle_cls hG hC hz (ord_lo (n := n)).1 ord_lo.2 h0 (by omega) (ct := fun _ => 0) (tk := rcvT z (fdX n z (fjE E) (fdE E) fr) 0 n) (rcv_cfg hn hx h0 hout)
  refine ⟨g, find_rep hG hC hn2 hz (s := s) (k := k) hL m2 m4 hS hcv h2 h3, fun v hv hvz => ?_, h1.1, fun j hj hnj => by rw [stl_out hG h2 hj hnj]; exact hout j hnj⟩
  exact h3 v (by omega) hvz (conn_dg hG hC hn2 hv)
theorem fdR_go {n : Nat} {E : Nat → Nat → Nat} (hG : Gr n E) (hC : Conn n E) (hn2 : 2 ≤ n) {z : Nat} (hz : z < n) {r : Nat → Int} {fr : Nat → Int32} (hr : ∀ v, v < n → v ≠ z → fr v = iI (r v) ∧ -800 ≤ r v ∧ r v ≤ 800 ∧ (dg E v : Int) - 1 - r v ≤ 800) :
    ∃ g, Rep n E z r g ∧ (∀ v, v < n → v ≠ z → g v < dg E v) ∧ ∀ j, j < 6 → (fdR n z (fjE E) (fdE E) fr).1 j = nI (if j = z then 0 else g j) := by
  obtain ⟨g, a, b, c, _⟩ := fdR_goB hG hC hn2 hz hr
  exact ⟨g, a, b, c⟩
