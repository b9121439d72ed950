/-! THE UNIT as the law looks at it -/
def cutN (n z : Nat) (g : Nat → Nat) (j : Nat) : Nat := if j < n ∧ j ≠ z then g j else 0
theorem cutN_in {n z : Nat} {g : Nat → Nat} {j : Nat} (hj : j < n) (hz : j ≠ z) : cutN n z g j = g j := if_pos ⟨hj, hz⟩
theorem cutN_z {n z : Nat} {g : Nat → Nat} : cutN n z g z = 0 := if_neg fun q => q.2 rfl
theorem cutN_out {n z : Nat} {g : Nat → Nat} {j : Nat} (hj : n ≤ j) : cutN n z g j = 0 := if_neg (by omega)
theorem rep_cut {n : Nat} {E : Nat → Nat → Nat} (hG : Gr n E) {z : Nat} {r : Nat → Int} {g : Nat → Nat} (h : Rep n E z r g) : Rep n E z r (cutN n z g) := by
  obtain ⟨h1, h2, f, h3, h4⟩ := h
  refine ⟨fun j hj hjz hd => ?_, fun S hS hne => ?_, f, h3, fun v hv hvz => ?_⟩
  · have hjn : j < n := by
      rcases Nat.lt_or_ge j n with q | q
      · exact q
      · rw [dg_out hG q] at hd; exact absurd hd (Nat.lt_irrefl _)
    rw [cutN_in hjn hjz]
    exact h1 j hj hjz hd
  · obtain ⟨v, hv, hSv, hle⟩ := h2 S hS hne
    refine ⟨v, hv, hSv, ?_⟩
    have hvz : v ≠ z := fun q => by rw [q, hS] at hSv; cases hSv
    rcases Nat.lt_or_ge v n with q | q
    · rw [cutN_in q hvz]; exact hle
    · have : dgS E S v = 0 := sumN_0 fun w _ => by
        show (if S w = true then E v w else 0) = 0
        rw [hG.2.2.2.1 v w q]; exact ite_self 0
      omega
  · show r v - ((cutN n z g v : Nat) : Int) = _
    rw [cutN_in hv hvz]
    exact h4 v hv hvz
theorem twA_at {u : Nat → Int32} : ∀ n v, twA u n v = if v < n then 2 * u v else 0
  | 0, v => by rw [if_neg (Nat.not_lt_zero _)]; rfl
  | n + 1, v => by
    have ih := twA_at (u := u) n v
    show upd (twA u n) n (2 * u n) v = _
    by_cases h : v = n
    · subst h; rw [upd_s, if_pos (Nat.lt_succ_self _)]
    · rw [upd_n _ _ h, ih]
      by_cases h2 : v < n
      · rw [if_pos h2, if_pos (by omega)]
      · rw [if_neg h2, if_neg (by omega)]
theorem unA_out {u : Nat → Int32} : ∀ {n v : Nat}, n ≤ v → unA u n v = 0
  | 0, _, _ => rfl
  | n + 1, v, h => by
    show upd (unA u n) n (u n) v = _
    rw [upd_n _ _ (by omega)]
    exact unA_out (by omega)
/-- all that the law asks of the unit -/
theorem unit_law {n : Nat} {E : Nat → Nat → Nat} (hG : Gr n E) (hC : Conn n E) (hn2 : 2 ≤ n) {z : Nat} (hz : z < n) {f5 : Nat → Int32} (h5 : ∀ v, v < 6 → f5 v = 0) {F : Nat} (hF : 2250 ≤ F) :
    (fdR n z (fjE E) (fdE E) f5).1 z = 0 ∧ (∀ v, v < n → ¬ v = z → ¬ (fdR n z (fjE E) (fdE E) f5).1 v < 0 ∧ (fdR n z (fjE E) (fdE E) f5).1 v < nI (dg E v)) ∧
    hiO (cnL E z (lsA E n z F (twA (fdR n z (fjE E) (fdE E) f5).1 n, (fun _ => 0), 0)).1) n = none ∧
    (∀ v, v < n → ¬ blP E n z (unA (fdR n z (fjE E) (fdE E) f5).1 n) 6 v < 0) ∧
    ∀ v, v < n → ¬ v = z → (lsA E n z F (twA (fdR n z (fjE E) (fdE E) f5).1 n, (fun _ => 0), 0)).1 v = (fdR n z (fjE E) (fdE E) f5).1 v := by
  have hn := hG.1
  have hd15 := fun v => dg_le hG v
  obtain ⟨g, hR, hlt, hat⟩ := fdR_go hG hC hn2 hz (r := fun _ => 0) (fr := f5) fun v hv _ => ⟨by rw [h5 v (by omega)]; rfl, by omega, by omega, by have := hd15 v; omega⟩
  have hRc := rep_cut hG hR
  have hu : ∀ v, v < n → v ≠ z → (fdR n z (fjE E) (fdE E) f5).1 v = nI (g v) := fun v hv hvz => by rw [hat v (by omega), if_neg hvz]
  have huz : (fdR n z (fjE E) (fdE E) f5).1 z = 0 := by rw [hat z (by omega), if_pos rfl]; rfl
  generalize (fdR n z (fjE E) (fdE E) f5).1 = u at *
  let c : Nat → Nat := fun j => cutN n z g j + cutN n z g j
  have hc0 : c z = 0 := by show cutN n z g z + cutN n z g z = 0; rw [cutN_z]
  have hout : ∀ v, n ≤ v → c v = 0 := fun v hv => by show cutN n z g v + cutN n z g v = 0; rw [cutN_out hv]
  have hT := sum_le5 (b := 30) hn hz hc0 hout fun v hv => by
    by_cases hvz : v = z
    · rw [hvz, hc0]; omega
    · have := hlt v hv hvz
      have := hd15 v
      show cutN n z g v + cutN n z g v ≤ 30
      rw [cutN_in hv hvz]; omega
  have htw : ∀ j, j < 6 → j ≠ z → twA u n j = nI (c j) := fun j hj hjz => by
    rw [twA_at]
    by_cases h : j < n
    · rw [if_pos h, hu j h hjz]
      show nI 2 * nI (g j) = nI (cutN n z g j + cutN n z g j)
      rw [pk_mul, cutN_in h hjz]
      congr 1; omega
    · rw [if_neg h, hout j (by omega)]; rfl
  obtain ⟨g2, k2, a1, a2, a3, a4⟩ := settle_law hG hC hz hc0 (by omega) (F := F) (by omega) (f := twA u n) (ct := fun _ => 0) htw
  refine ⟨huz, fun v hv hvz => ?_, a4, fun v hv => ?_, fun v hv hvz => ?_⟩
  · rw [hu v hv hvz]
    have := hlt v hv hvz
    have := hd15 v
    exact ⟨nI_pos (by omega), nI_lt (by omega) (by omega)⟩
  · have h6 := (fire_eq hG hz (f := unA u n) (g := cutN n z g) (fun w hw hwz => by rw [unA_at hw, hu w hw hwz, cutN_in hw hwz]) (fun w hw => by
      by_cases hwz : w = z
      · rw [hwz, cutN_z]; omega
      · rw [cutN_in hw hwz]; have := hlt w hw hwz; have := hd15 w; omega) hv).2
    rw [h6]
    have h7 := fir_all hG hz hRc.2.1 (k := n - 1) (by omega) v hv
    exact Int32.not_lt.mpr ((fir_nn (by omega)).mpr h7)
  · have hM := rep_more hG hRc (e := cutN n z g) (c := c) (fun j _ => rfl) a2 a3
    have h8 := rep_one hG hC hn2 hz hRc hM (by
      obtain ⟨f, f1, f2⟩ := hRc.2.2
      exact ⟨f, f1, fun w hw hwz => by
        have := f2 w hw hwz
        show (0 : Int) - (0 + ((cutN n z g w : Nat) : Int)) = _
        rw [Int.zero_add]
        exact this⟩) v hv hvz
    rw [a1.1 v (by omega) hvz, hu v hv hvz, ← h8, cutN_in hv hvz]
