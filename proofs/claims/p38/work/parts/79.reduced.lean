/-! THE REDUCED ROW as the law looks at it -/
theorem msI_at {fd f8 q : Nat → Int32} : ∀ n v, msI fd f8 q n v = if v < n then fd v - 1 - f8 v else q v
  | 0, v => by rw [if_neg (Nat.not_lt_zero _)]; rfl
  | n + 1, v => by
    have ih := msI_at (fd := fd) (f8 := f8) (q := q) n v
    show upd (msI fd f8 q n) n (fd n - 1 - f8 n) v = _
    by_cases h : v = n
    · subst h; rw [upd_s, if_pos (Nat.lt_succ_self _)]
    · rw [upd_n _ _ h, ih]
      by_cases h2 : v < n
      · rw [if_pos h2, if_pos (by omega)]
      · rw [if_neg h2, if_neg (by omega)]
theorem rSum_i {f : Nat → Int32} {d : Nat → Int} : ∀ n, (∀ v, v < n → f v = iI (d v)) → rSum f n = iI (sI d n)
  | 0, _ => iI_0.symm
  | n + 1, h => by
    show rSum f n + f n = iI (sI d n + d n)
    rw [rSum_i n fun v hv => h v (by omega), h n (by omega), iI_add]
theorem skI_e {n : Nat} {E : Nat → Nat → Nat} {z : Nat} {f : Nat → Int32} {g : Nat → Nat} {x : Int} : ∀ m, (∀ i, i < m → f (skp z i) = nI (g (skp z i))) → skI (fdE E) z f (iI x) m = iI (x - sI (fun i => (dg E (skp z i) : Int) - 1 - g (skp z i)) m)
  | 0, _ => by
    show iI x = iI (x - 0)
    rw [Int.sub_zero]
  | m + 1, h => by
    have ih := skI_e (n := n) (E := E) (z := z) (x := x) m fun i hi => h i (by omega)
    show skI (fdE E) z f (iI x) m - (fdE E (skp z m) - 1 - f (skp z m)) = iI (x - (sI (fun i => (dg E (skp z i) : Int) - 1 - g (skp z i)) m + ((dg E (skp z m) : Int) - 1 - g (skp z m))))
    rw [ih, h m (by omega)]
    show _ - (nI (dg E (skp z m)) - 1 - nI (g (skp z m))) = _
    rw [← iI_n, ← iI_n, show (1 : Int32) = iI 1 by decide, iI_sub, iI_sub, iI_sub]
    congr 1; omega
/-- a sum over the others -/
theorem sI_oth {n z : Nat} (hz : z < n) (a : Nat → Int) : sI (fun w => if w = z then 0 else a w) n = sI (fun i => a (skp z i)) (n - 1) := by
  obtain ⟨m, rfl⟩ : ∃ m, n = m + 1 := ⟨n - 1, by omega⟩
  rw [sI_skp (z := z) hz]
  show sI _ m + (if z = z then 0 else a z) = sI _ m
  rw [if_pos rfl, Int.add_zero]
  exact sI_congr fun i _ => if_neg (skp_ne z i)
/-- what the class answers to reduced -/
theorem rdI_e {n : Nat} {E : Nat → Nat → Nat} (hG : Gr n E) {z : Nat} (hz : z < n) {fo f : Nat → Int32} {d : Nat → Int} {g : Nat → Nat} (hd : ∀ v, v < 6 → fo v = iI (d v)) (hd0 : ∀ v, n ≤ v → d v = 0) (hf : ∀ v, v < n → v ≠ z → f v = nI (g v)) {v : Nat} (hv : v < n) : rdI n z (fdE E) fo f v = iI (rdv n E z (sI d n) g v) := by
  have hn := hG.1
  unfold rdI rdv
  by_cases hvz : v = z
  · rw [if_pos hvz, if_pos hvz, rSum_i 6 hd, sI_cut6 hn hd0, sI_oth hz]
    exact skI_e (n := n) (n - 1) fun i hi => hf _ (by have := skp_lt (j := z) hi; omega) (skp_ne z i)
  · rw [if_neg hvz, if_neg hvz, hf v hv hvz]
    show nI (dg E v) - 1 - nI (g v) = _
    rw [← iI_n, ← iI_n, show (1 : Int32) = iI 1 by decide, iI_sub, iI_sub]
/-- the finder behind reduced, rank -/
theorem miss_goB {n : Nat} {E : Nat → Nat → Nat} (hG : Gr n E) (hC : Conn n E) (hn2 : 2 ≤ n) {z : Nat} (hz : z < n) {fo q : Nat → Int32} {d : Nat → Int} (hd : ∀ v, v < n → fo v = iI (d v) ∧ -700 ≤ d v ∧ d v ≤ 700) :
    ∃ g, Rep n E z (fun v => (dg E v : Int) - 1 - d v) g ∧ (∀ v, v < n → v ≠ z → g v < dg E v) ∧ (∀ j, j < 6 → (fdR n z (fjE E) (fdE E) (msI (fdE E) fo q n)).1 j = nI (if j = z then 0 else g j)) ∧ ∀ j, j < 6 → n ≤ j → g j = 0 := by
  have hd15 := fun v => dg_le hG v
  refine fdR_goB hG hC hn2 hz fun v hv hvz => ?_
  have h1 := hd v hv
  have h2 := hd15 v
  refine ⟨?_, by omega, by omega, by omega⟩
  rw [msI_at, if_pos hv, h1.1]
  show nI (dg E v) - 1 - iI (d v) = _
  rw [← iI_n, show (1 : Int32) = iI 1 by decide, iI_sub, iI_sub]
theorem miss_go {n : Nat} {E : Nat → Nat → Nat} (hG : Gr n E) (hC : Conn n E) (hn2 : 2 ≤ n) {z : Nat} (hz : z < n) {fo q : Nat → Int32} {d : Nat → Int} (hd : ∀ v, v < n → fo v = iI (d v) ∧ -700 ≤ d v ∧ d v ≤ 700) :
    ∃ g, Rep n E z (fun v => (dg E v : Int) - 1 - d v) g ∧ (∀ v, v < n → v ≠ z → g v < dg E v) ∧ ∀ j, j < 6 → (fdR n z (fjE E) (fdE E) (msI (fdE E) fo q n)).1 j = nI (if j = z then 0 else g j) := by
  obtain ⟨g, a, b, c, _⟩ := miss_goB (q := q) hG hC hn2 hz hd
  exact ⟨g, a, b, c⟩
theorem bgA_at {z : Nat} : ∀ n v, bgA z n v = if v < n then (if v = z then 0 else 2000) else 0
  | 0, v => by rw [if_neg (Nat.not_lt_zero _)]; rfl
  | n + 1, v => by
    have ih := bgA_at (z := z) n v
    show upd (bgA z n) n (if n = z then 0 else 2000) v = _
    by_cases h : v = n
    · subst h; rw [upd_s, if_pos (Nat.lt_succ_self _)]
    · rw [upd_n _ _ h, ih]
      by_cases h2 : v < n
      · rw [if_pos h2, if_pos (show v < n + 1 by omega)]
      · rw [if_neg h2, if_neg (by omega)]
theorem smA_at {z n : Nat} {g : Nat → Int32} : ∀ m v, smA z n g m v = if v < m then bgA z n v + g v else 0
  | 0, v => by rw [if_neg (Nat.not_lt_zero _)]; rfl
  | m + 1, v => by
    have ih := smA_at (z := z) (n := n) (g := g) m v
    show upd (smA z n g m) m (bgA z n m + g m) v = _
    by_cases h : v = m
    · subst h; rw [upd_s, if_pos (Nat.lt_succ_self _)]
    · rw [upd_n _ _ h, ih]
      by_cases h2 : v < m
      · rw [if_pos h2, if_pos (by omega)]
      · rw [if_neg h2, if_neg (by omega)]
/-- a row lifted by 2000, settled by the law -/
theorem alike_go {n : Nat} {E : Nat → Nat → Nat} (hG : Gr n E) (hC : Conn n E) {z : Nat} (hz : z < n) {f : Nat → Int32} {d : Nat → Int} (hd : ∀ v, v < n → v ≠ z → f v = iI (d v) ∧ -700 ≤ d v ∧ d v ≤ 700) {F : Nat} (hF : 210000 ≤ F) :
    ∃ g, Rep n E z (fun v => 2000 + d v) g ∧ (∀ v, v < n → v ≠ z → (lsA E n z F (smA z n f n, (fun _ => 0), 0)).1 v = nI (g v)) ∧ hiO (cnL E z (lsA E n z F (smA z n f n, (fun _ => 0), 0)).1) n = none := by
  have hn := hG.1
  let c : Nat → Nat := fun v => if v < n ∧ v ≠ z then (2000 + d v).toNat else 0
  have hcv : ∀ v, v < n → v ≠ z → ((c v : Nat) : Int) = 2000 + d v := fun v hv hvz => by
    show (((if v < n ∧ v ≠ z then (2000 + d v).toNat else 0 : Nat)) : Int) = _
    rw [if_pos ⟨hv, hvz⟩]
    have := (hd v hv hvz).2
    omega
  have h0 : c z = 0 := if_neg (fun q => q.2 rfl)
  have hout : ∀ v, n ≤ v → c v = 0 := fun v hv => if_neg (by omega)
  have hT := sum_le5 (b := 2700) hn hz h0 hout fun v hv => by
    by_cases hvz : v = z
    · rw [hvz, h0]; omega
    · have := hcv v hv hvz
      have := (hd v hv hvz).2
      omega
  obtain ⟨g, k, a1, a2, a3, a4⟩ := settle_law hG hC hz h0 (by omega) (F := F) (by omega) (f := smA z n f n) (ct := fun _ => 0) (c := c) fun j hj hjz => by
    rw [smA_at]
    by_cases h : j < n
    · rw [if_pos h, bgA_at, if_pos h, if_neg hjz, (hd j h hjz).1, show (2000 : Int32) = iI 2000 by decide, iI_add, ← iI_n, hcv j h hjz]
    · rw [if_neg h, hout j (by omega)]; rfl
  refine ⟨g, Rep.congr (rep_high hG hC hz (fun v hv hvz => ?_) a2 a3) fun v hv hvz => hcv v hv hvz, fun v hv hvz => a1.1 v (by omega) hvz, a4⟩
  have := hcv v hv hvz
  have := (hd v hv hvz).2
  have := dg_le hG v
  omega
