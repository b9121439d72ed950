/-! THE ACTS: the canonical state after so many, and what each act makes of it -/
def St (k n : Nat) (E : Nat → Nat → Nat) (z : Nat) (c t : Nat → Nat) (d : Nat → Int) : Prop :=
  Gr n E ∧ 3 ≤ n ∧ z < n ∧ c z = 0 ∧ (∀ j, n ≤ j → c j = 0) ∧ sumN c 6 ≤ 75 + 30 * k ∧ (∀ v, t v ≤ 984 * k) ∧ (∀ v, -(6 + 15 * (k : Int)) ≤ d v ∧ d v ≤ 6 + 15 * (k : Int)) ∧ ∀ v, n ≤ v → d v = 0
theorem St.more {k n : Nat} {E : Nat → Nat → Nat} {z : Nat} {c t : Nat → Nat} {d : Nat → Int} (h : St k n E z c t d) : St (k + 1) n E z c t d := by
  obtain ⟨h1, h2, h3, h4, h5, h6, h7, h8, h9⟩ := h
  exact ⟨h1, h2, h3, h4, h5, by omega, fun v => by have := h7 v; omega, fun v => by have := h8 v; omega, h9⟩
theorem St.cle {k n : Nat} {E : Nat → Nat → Nat} {z : Nat} {c t : Nat → Nat} {d : Nat → Int} (h : St k n E z c t d) (v : Nat) : c v ≤ 75 + 30 * k := by
  obtain ⟨h1, h2, h3, h4, h5, h6, h7, h8, h9⟩ := h
  have hn := h1.1
  by_cases q : v < 6
  · exact Nat.le_trans (sumN_ge1 (f := c) (n := 6) v q) h6
  · rw [h5 v (by omega)]; omega
/-- nothing on it: after a change of the graph or of the sink -/
theorem st_clear {k n : Nat} {E : Nat → Nat → Nat} {z : Nat} (hG : Gr n E) (h3 : 3 ≤ n) (hz : z < n) : St k n E z (fun _ => 0) (fun _ => 0) (fun _ => 0) :=
  ⟨hG, h3, hz, rfl, fun _ _ => rfl, by rw [sumN_0 (fun _ _ => rfl)]; omega, fun _ => Nat.zero_le _, fun _ => by show -(6 + 15 * (k : Int)) ≤ 0 ∧ (0 : Int) ≤ 6 + 15 * (k : Int); omega, fun _ _ => rfl⟩
theorem clear_rows (E : Nat → Nat → Nat) : nF (fun _ => 0) = (fun _ => 0) ∧ iF (fun _ => 0) = (fun _ => 0) ∧ (fun v9 => nI ((fun _ => 0) v9 % dg E v9)) = (fun _ => (0 : Int32)) ∧ (fun j9 => nI ((fun _ : Nat => 0) j9)) = (fun _ => (0 : Int32)) := by
  refine ⟨funext fun v => rfl, funext fun v => iI_0, funext fun v => ?_, funext fun v => rfl⟩
  show nI (0 % dg E v) = 0
  rw [Nat.zero_mod]; rfl
theorem st_put {k n : Nat} {E : Nat → Nat → Nat} {z : Nat} {c t : Nat → Nat} {d : Nat → Int} (h : St k n E z c t d) {v x : Nat} (hv : v < n) (hvz : ¬ v = z) (hx : x ≤ 30) : St (k + 1) n E z (adv c v x) t d ∧ upd (nF c) v (nF c v + nI x) = nF (adv c v x) := by
  obtain ⟨h1, h2, h3, h4, h5, h6, h7, h8, h9⟩ := h.more
  have hn := h1.1
  have h60 := h.2.2.2.2.2.1
  refine ⟨⟨h1, h2, h3, ?_, fun j hj => ?_, ?_, h7, h8, h9⟩, funext fun j => ?_⟩
  · show (if z = v then c v + x else c z) = 0
    rw [if_neg (fun q => hvz q.symm)]; exact h4
  · show (if j = v then c v + x else c j) = 0
    rw [if_neg (by omega)]; exact h5 j hj
  · rw [sumN_adv1 _ _ _ _ (by omega)]; omega
  · show upd (nF c) v (nI (c v) + nI x) j = nI (if j = v then c v + x else c j)
    by_cases q : j = v
    · rw [q, upd_s, if_pos rfl, nI_add]
    · rw [upd_n _ _ q, if_neg q]; rfl
theorem put_low {k n : Nat} {E : Nat → Nat → Nat} {z : Nat} {c t : Nat → Nat} {d : Nat → Int} (h : St k n E z c t d) (hk : k ≤ 50) {v x : Nat} (hx : x ≤ 30) : ¬ 2000 < nF c v + nI x := by
  have h1 := h.cle v
  show ¬ 2000 < nI (c v) + nI x
  rw [nI_add]
  exact Int32.not_lt.mpr (show nI (c v + x) ≤ nI 2000 from nI_le (by omega) (by omega))
/-- what a toppling leaves -/
def tpN (E : Nat → Nat → Nat) (z v : Nat) (c : Nat → Nat) : Nat → Nat := fun j => if j = z then 0 else tpE E v 1 c j
theorem st_top {k n : Nat} {E : Nat → Nat → Nat} {z : Nat} {c t : Nat → Nat} {d : Nat → Int} (h : St k n E z c t d) (hk : k ≤ 50) {v : Nat} (hv : v < n) (hvz : ¬ v = z) (hd0 : 0 < dg E v) (hd : dg E v ≤ c v) (tk : Int32) :
    St (k + 1) n E z (tpN E z v c) t d ∧ (∀ j, j < 6 → tpF z (fjE E) 1 v (upd (nF c) v (nF c v + (-1) * fdE E v)) n j = nF (tpN E z v c) j) ∧ (∀ j, j < 6 → upd (tlF E v (upd (nF c) v (nF c v - nI (dg E v))) 6) z 0 j = nF (tpN E z v c) j) ∧ tpT z (fjE E) 1 v tk n = tk + nI (E v z) ∧ tlF E v (upd (nF c) v (nF c v - nI (dg E v))) 6 z = nI (E v z) := by
  obtain ⟨h1, h2, h3, h4, h5, h6, h7, h8, h9⟩ := h.more
  have hn := h1.1
  have h60 := h.2.2.2.2.2.1
  have hle := h.cle v
  have hE0 : ∀ j, n ≤ j → E v j = 0 := fun j hj => by rw [h1.2.1 v j]; exact h1.2.2.2.1 j v hj
  have hL := leg_step h1 (show v < 6 by omega) hvz hd0 (show 1 * dg E v ≤ c v by omega) (leg_0 E z c)
  have ho : ∀ j, n ≤ j → tpE E v 1 c j = 0 := fun j hj => by
    show (if j = v then c j - 1 * dg E v else c j + 1 * E v j) = 0
    rw [if_neg (by omega), h5 j hj, hE0 j hj]
  refine ⟨⟨h1, h2, h3, if_pos rfl, fun j hj => ?_, ?_, h7, h8, h9⟩, fun j hj => ?_, fun j hj => ?_, ?_, ?_⟩
  · show (if j = z then 0 else tpE E v 1 c j) = 0
    split
    · rfl
    · exact ho j hj
  · refine Nat.le_trans (sumN_le (g := tpE E v 1 c) fun j _ => ?_) (by rw [leg_T h1 hL]; exact h6)
    show (if j = z then 0 else tpE E v 1 c j) ≤ tpE E v 1 c j
    split <;> omega
  · rw [tpF_at]
    show _ = nI (if j = z then 0 else tpE E v 1 c j)
    by_cases q : j = z
    · rw [if_pos (Or.inl q), if_pos q, q, upd_n _ _ (fun w => hvz w.symm)]
      show nI (c z) = nI 0
      rw [h4]
    · by_cases q2 : n ≤ j
      · rw [if_pos (Or.inr q2), if_neg q, upd_n _ _ (show ¬ j = v by omega), ho j q2]
        show nI (c j) = nI 0
        rw [h5 j q2]
      · rw [if_neg (fun w => w.elim q q2), if_neg q, fjE_at E hj, Int32.one_mul]
        show _ = nI (if j = v then c j - 1 * dg E v else c j + 1 * E v j)
        by_cases e : j = v
        · rw [if_pos e, e, upd_s, h1.2.2.1 v, nI_0, Int32.add_zero]
          show nI (c v) + (-1) * nI (dg E v) = _
          rw [show (-1 : Int32) = -(nI 1) by decide]
          exact i32_lift (show 1 * dg E v ≤ c v by omega)
        · rw [if_neg e, upd_n _ _ e, Nat.one_mul]
          show nI (c j) + nI (E v j) = _
          rw [nI_add]
  · show _ = nI (if j = z then 0 else tpE E v 1 c j)
    by_cases q : j = z
    · rw [if_pos q, q, upd_s]; rfl
    · rw [if_neg q, upd_n _ _ q, tlF_at, if_pos hj]
      show _ = nI (if j = v then c j - 1 * dg E v else c j + 1 * E v j)
      by_cases e : j = v
      · rw [if_pos e, e, upd_s, h1.2.2.1 v, nI_0, Int32.add_zero, Nat.one_mul]
        exact pk_sub hd
      · rw [if_neg e, upd_n _ _ e, Nat.one_mul]
        show nI (c j) + nI (E v j) = _
        rw [nI_add]
  · rw [tpT_at, if_pos h3, fjE_at E (by omega), Int32.one_mul]
  · rw [tlF_at, if_pos (by omega), upd_n _ _ (fun w => hvz w.symm)]
    show nI (c z) + nI (E v z) = _
    rw [h4, nI_add, Nat.zero_add]
theorem top_can {n : Nat} {E : Nat → Nat → Nat} (hG : Gr n E) {z v : Nat} {c : Nat → Nat} (hb : c v < 2 ^ 30) : (cTop z (fdE E) (nF c) v = true ↔ v ≠ z ∧ 0 < dg E v ∧ dg E v ≤ c v) ∧ (cnL E z (nF c) v = true ↔ v ≠ z ∧ 0 < dg E v ∧ dg E v ≤ c v) :=
  ⟨cTop_iff hG.2.2.2.2 rfl (by omega), cnL_iff hG.2.2.2.2 rfl (by omega)⟩
/-- what a settling leaves: few -/
theorem stl_sum {n : Nat} {E : Nat → Nat → Nat} (hG : Gr n E) (hC : Conn n E) (hn2 : 2 ≤ n) {z : Nat} (hz : z < n) {g : Nat → Nat} (h0 : g z = 0) (ho : ∀ j, n ≤ j → g j = 0) (hS : Stl E z g) : sumN g 6 ≤ 75 := by
  have hn := hG.1
  exact sum_le5 (b := 15) hn hz h0 ho fun v hv => by
    by_cases e : v = z
    · rw [e, h0]; omega
    · have h1 := hS v (by omega) e (conn_dg hG hC hn2 hv)
      have h2 := dg_le hG v
      omega
theorem st_settled {k n : Nat} {E : Nat → Nat → Nat} {z : Nat} {c t : Nat → Nat} {d : Nat → Int} (h : St k n E z c t d) (hC : Conn n E) {g : Nat → Nat} (h0 : g z = 0) (ho : ∀ j, n ≤ j → g j = 0) (hS : Stl E z g) : St (k + 1) n E z g t d := by
  obtain ⟨h1, h2, h3, h4, h5, h6, h7, h8, h9⟩ := h.more
  have hs := stl_sum h1 hC (by omega) h3 h0 ho hS
  exact ⟨h1, h2, h3, h0, ho, by omega, h7, h8, h9⟩
theorem st_walk {k n : Nat} {E : Nat → Nat → Nat} {z : Nat} {c t t' : Nat → Nat} {d : Nat → Int} (h : St k n E z c t d) (ht : ∀ j, t' j ≤ t j + 984) : St (k + 1) n E z c t' d := by
  have h70 := h.2.2.2.2.2.2.1
  obtain ⟨h1, h2, h3, h4, h5, h6, h7, h8, h9⟩ := h.more
  exact ⟨h1, h2, h3, h4, h5, h6, fun v => by have := h70 v; have := ht v; omega, h8, h9⟩
def sdN (d : Nat → Int) (v : Nat) (x : Int) : Nat → Int := fun j => if j = v then x else d j
theorem st_debt {k n : Nat} {E : Nat → Nat → Nat} {z : Nat} {c t : Nat → Nat} {d : Nat → Int} (h : St k n E z c t d) {v x : Nat} (hv : v < n) (hx : x < 13) : St (k + 1) n E z c t (sdN d v ((x : Int) - 6)) ∧ upd (iF d) v (nI x - 6) = iF (sdN d v ((x : Int) - 6)) := by
  obtain ⟨h1, h2, h3, h4, h5, h6, h7, h8, h9⟩ := h.more
  refine ⟨⟨h1, h2, h3, h4, h5, h6, h7, fun j => ?_, fun j hj => ?_⟩, funext fun j => ?_⟩
  · have := h8 j
    show -(6 + 15 * ((k + 1 : Nat) : Int)) ≤ (if j = v then (x : Int) - 6 else d j) ∧ (if j = v then (x : Int) - 6 else d j) ≤ 6 + 15 * ((k + 1 : Nat) : Int)
    split <;> omega
  · show (if j = v then (x : Int) - 6 else d j) = 0
    rw [if_neg (by omega)]; exact h9 j hj
  · show upd (iF d) v (nI x - 6) j = iI (if j = v then (x : Int) - 6 else d j)
    by_cases e : j = v
    · rw [e, upd_s, if_pos rfl, ← iI_n, show (6 : Int32) = iI 6 by decide, iI_sub]
    · rw [upd_n _ _ e, if_neg e]; rfl
theorem st_deal {k n : Nat} {E : Nat → Nat → Nat} {z : Nat} {c t : Nat → Nat} {d : Nat → Int} (h : St k n E z c t d) (hk : k ≤ 50) {v : Nat} (hv : v < n) {x : Int} (hx : x = 1 ∨ x = -1) : St (k + 1) n E z c t (dlN E v x d) ∧ (∀ u, u < n → ¬ 9999 < adI (fjE E) (fdE E) (iF d) u v (iI x) ∧ ¬ adI (fjE E) (fdE E) (iF d) u v (iI x) < -9999) ∧ (∀ j, j < 6 → dlF (fjE E) (fdE E) v (iI x) (iF d) n j = iF (dlN E v x d) j) ∧ ∀ j, j < 6 → ddF E v (iI x) (iF d) 6 j = iF (dlN E v x d) j := by
  have h80 := h.2.2.2.2.2.2.2.1
  obtain ⟨h1, h2, h3, h4, h5, h6, h7, h8, h9⟩ := h.more
  have hn := h1.1
  refine ⟨⟨h1, h2, h3, h4, h5, h6, h7, fun j => ?_, fun j hj => ?_⟩, fun u hu => deal_ok h1 (B := 6 + 15 * (k : Int)) hx (by omega) h80 u hu, fun j hj => ?_, fun j hj => ?_⟩
  · obtain ⟨a1, a2⟩ := dlN_bd h1 (v := v) (B := 6 + 15 * (k : Int)) hx h80 j
    omega
  · show d j + x * (if j = v then - (dg E v : Int) else (E v j : Int)) = 0
    rw [if_neg (by omega), h9 j hj, h1.2.1 v j, h1.2.2.2.1 j v hj]
    show 0 + x * ((0 : Nat) : Int) = 0
    rw [show ((0 : Nat) : Int) = 0 from rfl, Int.mul_zero]; rfl
  · rw [(deal_at h1 hv hj).1, dlX_iF]
  · rw [(deal_at h1 hv hj).2, dlX_iF]
/-- what isTold may ask of the state -/
theorem St.told {k n : Nat} {E : Nat → Nat → Nat} {z : Nat} {c t : Nat → Nat} {d : Nat → Int} (h : St k n E z c t d) (hk : k ≤ 36) : sumN c 6 < 1500 ∧ (∀ v, t v < 2 ^ 30) ∧ ∀ v, -600 ≤ d v ∧ d v ≤ 600 := by
  obtain ⟨h1, h2, h3, h4, h5, h6, h7, h8, h9⟩ := h
  exact ⟨by omega, fun v => by have := h7 v; omega, fun v => by have := h8 v; omega⟩
