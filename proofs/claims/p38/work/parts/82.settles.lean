/-- what both sides hold after a settling -/
theorem settle_fin {n : Nat} {E : Nat → Nat → Nat} (hG : Gr n E) (hC : Conn n E) (hn2 : 2 ≤ n) {z : Nat} (hz : z < n) {c : Nat → Nat} (hc : c z = 0) (hco : ∀ j, n ≤ j → c j = 0) (hT : sumN c 6 ≤ 66000) {F : Nat} (hF : 15 * sumN c 6 + 1 ≤ F) {f f2 ct : Nat → Int32} {tk : Int32} (hf : ∀ j, j < 6 → f j = nI (c j)) (hf2 : ∀ j, j < 6 → f2 j = nI (c j)) :
    (wvR E n z F (f2, 0, true)).2.2 = false ∧ hiO (cnL E z (lsA E n z F (f2, ct, 0)).1) n = none ∧ (∀ j, j < 6 → (wvR E n z F (f2, 0, true)).1 j = (lsA E n z F (f2, ct, 0)).1 j) ∧ (stA n z (fjE E) (fdE E) (fun i9 => i9) mR (f, ct, tk, 0)).2.2.2 = (lsA E n z F (f2, ct, 0)).2.2 ∧
    ((∀ j, j < 6 → f j = f2 j) → wvN n z (fjE E) (fdE E) mR 0 (w30 f) = (wvR E n z F (f2, 0, true)).2.1) ∧
    ∃ g : Nat → Nat, g z = 0 ∧ (∀ j, n ≤ j → g j = 0) ∧ Stl E z g ∧ sumN g 6 ≤ sumN c 6 ∧ (∀ j, j < 6 → (stA n z (fjE E) (fdE E) (fun i9 => i9) mR (f, ct, tk, 0)).1 j = nI (g j)) ∧ (∀ j, j < 6 → upd (lsA E n z F (f2, ct, 0)).1 z 0 j = nI (g j)) ∧ (∀ j, j < 6 → (stA n z (fjE E) (fdE E) (fun i9 => i9) mR (f, ct, tk, 0)).2.1 j = (lsA E n z F (f2, ct, 0)).2.1 j) ∧ (stA n z (fjE E) (fdE E) (fun i9 => i9) mR (f, ct, tk, 0)).2.2.1 = tk + (lsA E n z F (f2, ct, 0)).1 z := by
  have hn := hG.1
  have hm : mR = 1000000 := rfl
  obtain ⟨g1, k1, ⟨a1, a2, a3, a4⟩, l1, s1⟩ := settle_cls hG hC hz ord_lo.1 ord_lo.2 hc hT (f := f) (ct := ct) (tk := tk) hf
  obtain ⟨g2, k2, ⟨b1, b2, b3, b4⟩, l2, s2, hh⟩ := settle_law hG hC hz hc hT (show 15 * sumN c 6 ≤ F by omega) (f := f2) (ct := ct) (fun j hj _ => hf2 j hj)
  obtain ⟨ek, eg⟩ := leg_same l1 s1 l2 s2
  have hfz : f2 z = 0 := by rw [hf2 z (by omega), hc]; rfl
  rw [hfz, Int32.zero_add] at b2
  have hw : ∀ q : Nat → Int32, (∀ j, j < 6 → q j = nI (c j)) → Cf3 z (fun _ => 0) 0 (w30 q) c (fun _ => 0) := fun q hq => by
    refine ⟨fun j hj => ?_, fun j hj => ?_, ?_, ?_⟩
    · show q j = _
      by_cases h : j = z
      · subst h; rw [if_pos rfl, hq j hj, hc]
      · rw [if_neg h]; exact hq j hj
    · show (0 : Int32) = 0 + nI 0
      rfl
    · show (0 : Int32) = 0 + nI (c z)
      rw [hc]; rfl
    · show nI (sumN (fun _ => 0) 6) = nI (sumN (fun _ => 0) 6)
      rfl
  have hp : Cfp z 0 f2 c := ⟨fun j hj _ => hf2 j hj, by rw [hfz, hc]; rfl⟩
  obtain ⟨w, g3, k3, p3, l3, s3, ⟨c1, c2⟩, hwN, hwR⟩ := waves_go hG hC hn2 hz (ct0 := fun _ => 0) (tk0 := 0) (x0 := 0) (c := c) (by omega) (15 * sumN c 6) (w30 f) f2 c (fun _ => 0) (hw f hf) hp (leg_0 E z c) (by omega)
  obtain ⟨_, eg3⟩ := leg_same l3 s3 l2 s2
  have hR : wvR E n z F (f2, 0, true) = (p3, 0 + w, false) := hwR F 0 (by omega)
  refine ⟨by rw [hR], hh, fun j hj => ?_, ?_, fun _ => ?_, fun j => if j = z ∨ n ≤ j then 0 else g1 j, if_pos (Or.inl rfl), fun j hj => if_pos (Or.inr hj), fun j hj hjz hd => ?_, ?_, fun j hj => ?_, fun j hj => ?_, fun j hj => ?_, ?_⟩
  · rw [hR]
    show p3 j = _
    by_cases h : j = z
    · subst h; rw [c2, b2, Int32.zero_add, eg3 j hj]
    · rw [c1 j hj h, b1 j hj h, eg3 j hj]
  · rw [a4, b4, sumN_eq ek]
  · rw [hR]
    exact hwN mR 0 (by omega)
  · show (if j = z ∨ n ≤ j then 0 else g1 j) < dg E j
    split
    · exact hd
    · exact s1 j hj hjz hd
  · refine Nat.le_trans (sumN_le (g := g1) fun j hj => ?_) (Nat.le_of_eq (leg_T hG l1))
    show (if j = z ∨ n ≤ j then 0 else g1 j) ≤ g1 j
    split <;> omega
  · rw [a1 j hj]
    show nI (if j = z then 0 else g1 j) = nI (if j = z ∨ n ≤ j then 0 else g1 j)
    by_cases h : j = z
    · rw [if_pos h, if_pos (Or.inl h)]
    · by_cases h2 : n ≤ j
      · rw [if_neg h, if_pos (Or.inr h2), stl_out hG l1 hj h2, hco j h2]
      · rw [if_neg h, if_neg (fun q => q.elim h h2)]
  · show upd (lsA E n z F (f2, ct, 0)).1 z 0 j = nI (if j = z ∨ n ≤ j then 0 else g1 j)
    by_cases h : j = z
    · subst h; rw [upd_s, if_pos (Or.inl rfl)]; rfl
    · rw [upd_n _ _ h, b1 j hj h]
      by_cases h2 : n ≤ j
      · rw [if_pos (Or.inr h2), stl_out hG l2 hj h2, hco j h2]
      · rw [if_neg (fun q => q.elim h h2), eg j hj]
  · rw [a2 j hj, b3 j hj, ek j hj]
  · rw [a3, b2, eg z (by omega)]
/-- a doubling -/
theorem sqF_at {z : Nat} {f : Nat → Int32} : ∀ m j, sqF z f m j = if j < m ∧ j ≠ z then f j + f j else f j
  | 0, j => by rw [if_neg (fun q => Nat.not_lt_zero _ q.1)]; rfl
  | m + 1, j => by
    have ih := sqF_at (z := z) (f := f) m
    show (if m = z then sqF z f m else upd (sqF z f m) m (sqF z f m m + sqF z f m m)) j = _
    by_cases h : m = z
    · rw [if_pos h, ih j]
      by_cases h2 : j < m ∧ j ≠ z
      · rw [if_pos h2, if_pos ⟨by omega, h2.2⟩]
      · rw [if_neg h2, if_neg (fun q => h2 ⟨by omega, q.2⟩)]
    · rw [if_neg h]
      by_cases hj : j = m
      · subst hj
        rw [upd_s, ih j, if_neg (fun q => absurd q.1 (by omega)), if_pos ⟨by omega, h⟩]
      · rw [upd_n _ _ hj, ih j]
        by_cases h2 : j < m ∧ j ≠ z
        · rw [if_pos h2, if_pos ⟨by omega, h2.2⟩]
        · rw [if_neg h2, if_neg (fun q => h2 ⟨by omega, q.2⟩)]
theorem sqT_at {z : Nat} {f : Nat → Int32} {t : Int32} : ∀ m, sqT z f t m = if z < m then t + f z else t
  | 0 => by rw [if_neg (Nat.not_lt_zero _)]; rfl
  | m + 1 => by
    have ih := sqT_at (z := z) (f := f) (t := t) m
    show (if m = z then sqT z f t m + sqF z f m m else sqT z f t m) = _
    by_cases h : m = z
    · subst h
      rw [if_pos rfl, ih, if_neg (Nat.lt_irrefl _), if_pos (by omega), sqF_at, if_neg (fun q => q.2 rfl)]
    · rw [if_neg h, ih]
      by_cases h2 : z < m
      · rw [if_pos h2, if_pos (by omega)]
      · rw [if_neg h2, if_neg (by omega)]
theorem dbA_at {f : Nat → Int32} : ∀ m j, dbA f m j = if j < m then f j * 2 else f j
  | 0, j => by rw [if_neg (Nat.not_lt_zero _)]; rfl
  | m + 1, j => by
    have ih := dbA_at (f := f) m
    show upd (dbA f m) m (dbA f m m * 2) j = _
    by_cases hj : j = m
    · subst hj; rw [upd_s, ih j, if_neg (Nat.lt_irrefl _), if_pos (by omega)]
    · rw [upd_n _ _ hj, ih j]
      by_cases h2 : j < m
      · rw [if_pos h2, if_pos (by omega)]
      · rw [if_neg h2, if_neg (by omega)]
def dbN (c : Nat → Nat) (j : Nat) : Nat := c j + c j
theorem dbN_sum (c : Nat → Nat) : ∀ n, sumN (dbN c) n = sumN c n + sumN c n := fun n => sumN_add c c n
theorem sq_start {n z : Nat} {c : Nat → Nat} (hz : z < n) (hc : c z = 0) (hco : ∀ j, n ≤ j → c j = 0) (tk : Int32) : (∀ j, j < 6 → sqF z (nF c) n j = nI (dbN c j)) ∧ (∀ j, j < 6 → dbA (nF c) 6 j = nI (dbN c j)) ∧ sqT z (nF c) tk n = tk := by
  refine ⟨fun j hj => ?_, fun j hj => ?_, ?_⟩
  · rw [sqF_at]
    by_cases h : j < n ∧ j ≠ z
    · rw [if_pos h]
      show nI (c j) + nI (c j) = _
      rw [nI_add]; rfl
    · rw [if_neg h]
      have h0 : c j = 0 := by
        by_cases hjz : j = z
        · rw [hjz]; exact hc
        · exact hco j (Nat.le_of_not_lt fun q => h ⟨q, hjz⟩)
      show nI (c j) = nI (c j + c j)
      rw [h0]
  · rw [dbA_at, if_pos hj, show (2 : Int32) = nI 2 from rfl]
    show nI (c j) * nI 2 = nI (c j + c j)
    rw [pk_mul, Nat.mul_two]
  · rw [sqT_at, if_pos hz]
    show tk + nI (c z) = tk
    rw [hc, nI_0, Int32.add_zero]
theorem sq_low {n : Nat} {c : Nat → Nat} (h : ∀ j, j < 6 → c j ≤ 1000) (hn : n ≤ 6) : (∀ j, j < 6 → ¬ 1000 < nF c j) ∧ ∀ v, v < n → ¬ 2000 < nF c v + nF c v := by
  refine ⟨fun j hj => ?_, fun v hv => ?_⟩
  · have := h j hj
    exact Int32.not_lt.mpr (show nI (c j) ≤ nI 1000 from nI_le this (by omega))
  · have := h v (by omega)
    show ¬ 2000 < nI (c v) + nI (c v)
    rw [nI_add]
    exact Int32.not_lt.mpr (show nI (c v + c v) ≤ nI 2000 from nI_le (by omega) (by omega))
theorem sq_high {c : Nat → Nat} {y : Nat} (h : 1000 < c y) (hb : c y < 2 ^ 29) : 1000 < nF c y ∧ 2000 < nF c y + nF c y := by
  constructor
  · show 1000 < nI (c y)
    exact Int32.not_le.mp (nI_ge (a := 1000) (b := c y) h (by omega))
  · show 2000 < nI (c y) + nI (c y)
    rw [nI_add]
    exact Int32.not_le.mp (nI_ge (a := 2000) (b := c y + c y) (by omega) (by omega))
