/-! each row has its pile; the theorem -/
theorem rep_exists {n : Nat} {E : Nat → Nat → Nat} (hG : Gr n E) (hC : Conn n E) (hn : 2 ≤ n) {z : Nat} (hz : z < n) (r : Nat → Int) : ∃ g, Rep n E z r g := by
  have hn6 := hG.1
  obtain ⟨s, k, hL, hS⟩ := exists_settled hG hC hn hz (fun v => if v = z then 0 else dg E v)
  have hlift : ∀ v, v < n → v ≠ z → 1 ≤ (dg E v : Int) - s v := fun v hv hvz => by
    have := hS v (by omega) hvz (conn_dg hG hC hn hv)
    omega
  let m : Nat := sumN (fun v => dg E v + (r v).natAbs) 6
  have hm : ∀ v, v < 6 → dg E v + (r v).natAbs ≤ m := fun v hv => sumN_ge1 (f := fun v => dg E v + (r v).natAbs) v hv
  let c1 : Nat → Nat := fun v => (r v + m * ((dg E v : Int) - s v)).toNat
  have hc1 : ∀ v, v < n → v ≠ z → ((c1 v : Nat) : Int) = r v + m * ((dg E v : Int) - s v) ∧ dg E v ≤ c1 v := fun v hv hvz => by
    have h1 := hm v (by omega)
    have h2 : (m : Int) * 1 ≤ m * ((dg E v : Int) - s v) := Int.mul_le_mul_of_nonneg_left (hlift v hv hvz) (Int.natCast_nonneg _)
    rw [Int.mul_one] at h2
    have h3 : 0 ≤ r v + m * ((dg E v : Int) - s v) := by omega
    have h4 : ((c1 v : Nat) : Int) = r v + m * ((dg E v : Int) - s v) := Int.toNat_of_nonneg h3
    exact ⟨h4, by omega⟩
  obtain ⟨g, k1, hL1, hS1⟩ := exists_settled hG hC hn hz c1
  refine ⟨g, hS1, hL1.2.2.2.1 (nfs_full hG hC hz fun v hv hvz => by have := (hc1 v hv hvz).2; omega), ?_⟩
  refine ⟨fun i => (k1 i : Int) - m * (k i : Int), by simp [hL.2.1, hL1.2.1], fun v hv hvz => ?_⟩
  rw [Lap_sub]
  have h5 := leg_I hG hL1 (show v < 6 by omega)
  have h6 := leg_I hG hL (show v < 6 by omega)
  simp only [if_neg hvz] at h6
  have h7 : Lap E (fun i => (m : Int) * (k i : Int)) v = m * Lap E (fun i => (k i : Int)) v := by
    unfold Lap
    rw [← sI_mul]
    exact sI_congr fun j _ => by rw [← Int.mul_sub, ← Int.mul_assoc, ← Int.mul_assoc, Int.mul_comm (E v j : Int)]
  rw [h7]
  have h8 := (hc1 v hv hvz).1
  have h9 : (m : Int) * ((dg E v : Int) - s v) = m * Lap E (fun i => (k i : Int)) v := by congr 1; omega
  show r v - ((g v : Nat) : Int) = _
  omega
/-- the row that is reduced, on all vertices -/
def rdv (n : Nat) (E : Nat → Nat → Nat) (z : Nat) (t : Int) (g : Nat → Nat) (v : Nat) : Int := if v = z then t - sI (fun w => if w = z then 0 else (dg E w : Int) - 1 - g w) n else (dg E v : Int) - 1 - g v
theorem rdv_eqf {n : Nat} {E : Nat → Nat → Nat} (hG : Gr n E) {z : Nat} (hz : z < n) {D : Nat → Int} {g : Nat → Nat} (h : Eqv n E z (fun v => (dg E v : Int) - 1 - D v) (fun j => (g j : Int))) : Eqf n E D (rdv n E z (sI D n) g) := by
  obtain ⟨f, h0, h1⟩ := h
  refine ⟨fun j => - f j, fun v hv => ?_⟩
  rw [Lap_neg]
  by_cases hvz : v = z
  · subst hvz
    have h2 : sI (Lap E f) n = 0 := (sI_cut6 hG.1 (f := Lap E f) (fun j hj => Lap_out hG f hj)).symm.trans (Lap_sum hG f)
    have h3 : sI (Lap E f) n = sI (fun w => if w = v then 0 else Lap E f w) n + (Lap E f v - (if v = v then 0 else Lap E f v)) := sI_upd (f := fun w => if w = v then 0 else Lap E f w) (g := Lap E f) v hv (fun j _ hj => by simp [hj])
    rw [if_pos rfl] at h3
    have h4 : sI (fun w => if w = v then 0 else Lap E f w) n = sI (fun w => (if w = v then 0 else (dg E w : Int) - 1 - g w) - (if w = v then 0 else D w)) n := sI_congr fun j hj => by
      by_cases hjv : j = v
      · simp [hjv]
      · have h5 : (dg E j : Int) - 1 - D j - (g j : Int) = Lap E f j := h1 j hj hjv
        simp only [if_neg hjv]
        omega
    rw [sI_sub] at h4
    have h6 : sI D n = sI (fun w => if w = v then 0 else D w) n + (D v - (if v = v then 0 else D v)) := sI_upd (f := fun w => if w = v then 0 else D w) (g := D) v hv (fun j _ hj => by simp [hj])
    rw [if_pos rfl] at h6
    have k1 : sI (fun w => if w = v then 0 else D w) n = sI D n - D v := by omega
    have k2 : sI (fun w => if w = v then 0 else Lap E f w) n = - Lap E f v := by omega
    have k3 : - Lap E f v = sI (fun w => if w = v then 0 else (dg E w : Int) - 1 - g w) n - (sI D n - D v) := by rw [← k2, h4, ← k1]
    show D v - (if v = v then sI D n - sI (fun w => if w = v then 0 else (dg E w : Int) - 1 - g w) n else _) = _
    rw [if_pos rfl, k3]
    omega
  · have h2 : (dg E v : Int) - 1 - D v - (g v : Int) = Lap E f v := h1 v hv hvz
    unfold rdv
    rw [if_neg hvz]
    omega
theorem rdv_nn {n : Nat} {E : Nat → Nat → Nat} (hG : Gr n E) (hC : Conn n E) (hn : 2 ≤ n) {z : Nat} {t : Int} {g : Nat → Nat} (hS : Stl E z g) (h0 : 0 ≤ rdv n E z t g z) : ∀ v, v < n → 0 ≤ rdv n E z t g v := fun v hv => by
  by_cases hvz : v = z
  · rw [hvz]; exact h0
  · have := hS v (by have := hG.1; omega) hvz (conn_dg hG hC hn hv)
    unfold rdv
    rw [if_neg hvz]
    omega
theorem rdv_nu {n : Nat} {E : Nat → Nat → Nat} (hG : Gr n E) {z : Nat} (hz : z < n) {t : Int} {g : Nat → Nat} (hN : NFS E z g) (h0 : rdv n E z t g z < 0) : ∃ o, Ord n o ∧ ∀ v, v < n → rdv n E z t g v ≤ nu E n o v := by
  obtain ⟨o, h1, h2, h3⟩ := burn_order hG hz hN
  refine ⟨o, h1, fun v hv => ?_⟩
  by_cases hvz : v = z
  · subst hvz
    have h4 : sI (fun w => if o w < o v then (E v w : Int) else 0) n = 0 := sI_0 fun w hw => if_neg (h3 w hw)
    unfold nu
    omega
  · have h4 := h2 v hv hvz
    unfold nu rdv
    rw [if_neg hvz]
    omega
theorem Win.eqf {n : Nat} {E : Nat → Nat → Nat} {a b : Nat → Int} (h : Eqf n E a b) (hb : Win n E b) : Win n E a := by
  obtain ⟨c, h1, h2⟩ := hb
  exact ⟨c, h.trans h1, h2⟩
/-- debts can be paid just if the sink has at least 0 in the reduced row -/
theorem win_iff {n : Nat} {E : Nat → Nat → Nat} (hG : Gr n E) (hC : Conn n E) (hn : 2 ≤ n) {z : Nat} (hz : z < n) {D : Nat → Int} {g : Nat → Nat} (h : Rep n E z (fun v => (dg E v : Int) - 1 - D v) g) : Win n E D ↔ 0 ≤ rdv n E z (sI D n) g z := by
  have he := rdv_eqf hG hz h.2.2
  constructor
  · intro hw
    refine Classical.byContradiction fun hlt => ?_
    obtain ⟨o, -, h2⟩ := rdv_nu hG hz h.2.1 (t := sI D n) (by omega)
    exact nu_not hG (by omega) h2 (Win.eqf he.symm hw)
  · intro h0
    exact Win.eqf he ⟨_, Eqf.refl n E _, rdv_nn hG hC hn h.1 h0⟩
/-- all that is above 0, together -/
def dP (n : Nat) (a : Nat → Int) : Int := sI (fun v => if 0 ≤ a v then a v else 0) n
def RkGe (n : Nat) (E : Nat → Nat → Nat) (D : Nat → Int) (k : Int) : Prop := ∀ e : Nat → Int, (∀ v, v < n → 0 ≤ e v) → sI e n = k → Win n E (fun v => D v - e v)
def Bad (n : Nat) (E : Nat → Nat → Nat) (D : Nat → Int) (k : Int) : Prop := ∃ (D' o : Nat → Int), Eqf n E D D' ∧ Ord n o ∧ dP n (fun v => D' v - nu E n o v) ≤ k
theorem dP_nn (n : Nat) (a : Nat → Int) : 0 ≤ dP n a := sI_nn fun v _ => by split <;> omega
theorem dP_neg (n : Nat) (a : Nat → Int) : dP n (fun v => - a v) = dP n a - sI a n := by
  unfold dP
  rw [← sI_sub]
  exact sI_congr fun v _ => by
    show (if 0 ≤ - a v then - a v else 0) = (if 0 ≤ a v then a v else 0) - a v
    split <;> split <;> omega
theorem Bad.mono {n : Nat} {E : Nat → Nat → Nat} {D : Nat → Int} {k k' : Int} (h : Bad n E D k) (hk : k ≤ k') : Bad n E D k' := by
  obtain ⟨D', o, h1, h2, h3⟩ := h
  exact ⟨D', o, h1, h2, by omega⟩
theorem bad_iff {n : Nat} {E : Nat → Nat → Nat} (hG : Gr n E) (hC : Conn n E) (hn : 2 ≤ n) (D : Nat → Int) {k : Int} (hk : 0 ≤ k) : Bad n E D k ↔ ¬ RkGe n E D k := by
  constructor
  · rintro ⟨D', o, h1, h2, h3⟩ hR
    let e : Nat → Int := fun v => (if 0 ≤ D' v - nu E n o v then D' v - nu E n o v else 0) + (if v = 0 then k - dP n (fun v => D' v - nu E n o v) else 0)
    have he : sI e n = k := by
      show sI (fun v => _ + _) n = k
      rw [sI_add, sI_ite, if_pos (by omega)]
      show dP n (fun v => D' v - nu E n o v) + _ = k
      omega
    have hen : ∀ v, v < n → 0 ≤ e v := fun v _ => by show 0 ≤ _ + _; split <;> split <;> omega
    have hw := hR e hen he
    have hw2 : Win n E (fun v => D' v - e v) := Win.eqf (h1.symm.move e) hw
    refine nu_not hG (by omega) (o := o) (fun v hv => ?_) hw2
    show D' v - (_ + _) ≤ _
    split <;> split <;> omega
  · intro hR
    have hex : ∃ e : Nat → Int, (∀ v, v < n → 0 ≤ e v) ∧ sI e n = k ∧ ¬ Win n E (fun v => D v - e v) := by
      refine Classical.byContradiction fun hno => hR fun e h1 h2 => ?_
      exact Classical.byContradiction fun h3 => hno ⟨e, h1, h2, h3⟩
    obtain ⟨e, h1, h2, h3⟩ := hex
    obtain ⟨g, hg⟩ := rep_exists hG hC hn (z := 0) (by omega) (fun v => (dg E v : Int) - 1 - (D v - e v))
    have h4 := rdv_eqf hG (show 0 < n by omega) (D := fun v => D v - e v) hg.2.2
    have h5 : rdv n E 0 (sI (fun v => D v - e v) n) g 0 < 0 := by
      refine Classical.byContradiction fun hge => h3 ?_
      exact (win_iff hG hC hn (show 0 < n by omega) (D := fun v => D v - e v) hg).mpr (by omega)
    obtain ⟨o, h6, h7⟩ := rdv_nu hG (show 0 < n by omega) hg.2.1 h5
    refine ⟨fun v => rdv n E 0 (sI (fun v => D v - e v) n) g v + e v, o, ?_, h6, ?_⟩
    · obtain ⟨f, h8⟩ := h4
      exact ⟨f, fun v hv => by have := h8 v hv; simp only at this; show D v - (_ + e v) = _; omega⟩
    · rw [← h2]
      exact sI_le fun v hv => by
        have := h7 v hv
        have := h1 v hv
        show (if 0 ≤ rdv n E 0 (sI (fun v => D v - e v) n) g v + e v - nu E n o v then rdv n E 0 (sI (fun v => D v - e v) n) g v + e v - nu E n o v else 0) ≤ e v
        split <;> omega
theorem bad_neg {n : Nat} {E : Nat → Nat → Nat} {D : Nat → Int} {k : Int} (hk : k < 0) : ¬ Bad n E D k := fun ⟨D', o, _, _, h⟩ => by
  have := dP_nn n (fun v => D' v - nu E n o v)
  omega
theorem nu_dual {n : Nat} {E : Nat → Nat → Nat} (hG : Gr n E) {o : Nat → Int} (ho : Ord n o) {v : Nat} (hv : v < n) : nu E n o v + nu E n (fun w => - o w) v = (dg E v : Int) - 2 := by
  show (sI (fun w => if o w < o v then (E v w : Int) else 0) n - 1) + (sI (fun w => if - o w < - o v then (E v w : Int) else 0) n - 1) = _
  unfold dg
  rw [sumN_I, sI_cut6 hG.1 (fun j hj => by rw [hG.2.1]; rw [hG.2.2.2.1 j v hj]; rfl)]
  have h1 : sI (fun j => (E v j : Int)) n = sI (fun w => if o w < o v then (E v w : Int) else 0) n + sI (fun w => if - o w < - o v then (E v w : Int) else 0) n := by
    rw [← sI_add]
    refine sI_congr fun w hw => ?_
    by_cases h2 : o w < o v
    · rw [if_pos h2, if_neg (by omega)]; omega
    · by_cases h3 : o v < o w
      · rw [if_neg h2, if_pos (by omega)]; omega
      · have h4 := ho v w hv hw (by omega)
        rw [← h4, hG.2.2.1 v]; simp
  omega
theorem nu_sum {n : Nat} {E : Nat → Nat → Nat} (hG : Gr n E) (o : Nat → Int) : sI (nu E n o) n = sI (nu E n (fun w => - o w)) n := by
  show sI (fun v => sI (fun w => if o w < o v then (E v w : Int) else 0) n - 1) n = sI (fun v => sI (fun w => if - o w < - o v then (E v w : Int) else 0) n - 1) n
  rw [sI_sub, sI_sub, sI_swap]
  congr 1
  refine sI_congr fun v _ => sI_congr fun w _ => ?_
  rw [hG.2.1 w v]
  by_cases h : o v < o w
  · rw [if_pos h, if_pos (by omega)]
  · rw [if_neg h, if_neg (by omega)]
/-- RIEMANN AND ROCH, as far as one goes -/
theorem bad_dual {n : Nat} {E : Nat → Nat → Nat} (hG : Gr n E) {D : Nat → Int} {k : Int} (h : Bad n E D k) {d : Int} (hd : 2 * d = 2 * sI D n - sI (fun v => (dg E v : Int) - 2) n) : Bad n E (fun v => (dg E v : Int) - 2 - D v) (k - d) := by
  obtain ⟨D', o, h1, h2, h3⟩ := h
  refine ⟨fun v => (dg E v : Int) - 2 - D' v, fun w => - o w, h1.from (fun v => (dg E v : Int) - 2), fun v w hv hw q => h2 v w hv hw (by have q2 : - o v = - o w := q; omega), ?_⟩
  have h4 : dP n (fun v => (dg E v : Int) - 2 - D' v - nu E n (fun w => - o w) v) = dP n (fun v => - (D' v - nu E n o v)) := sI_congr fun v hv => by
    have h5 := nu_dual hG h2 hv
    show (if 0 ≤ (dg E v : Int) - 2 - D' v - nu E n (fun w => - o w) v then (dg E v : Int) - 2 - D' v - nu E n (fun w => - o w) v else 0) = (if 0 ≤ - (D' v - nu E n o v) then - (D' v - nu E n o v) else 0)
    rw [show (dg E v : Int) - 2 - D' v - nu E n (fun w => - o w) v = - (D' v - nu E n o v) by omega]
  rw [h4, dP_neg, sI_sub]
  have h5 := h1.sum hG
  have h6 := nu_sum hG o
  have h7 : sI (fun v => (dg E v : Int) - 2) n = sI (nu E n o) n + sI (nu E n (fun w => - o w)) n := by
    rw [← sI_add]
    exact sI_congr fun v hv => (nu_dual hG h2 hv).symm
  omega
/-- r is the rank -/
def IsRk (n : Nat) (E : Nat → Nat → Nat) (D : Nat → Int) (r : Int) : Prop := ¬ Bad n E D r ∧ Bad n E D (r + 1)
theorem isRk_one {n : Nat} {E : Nat → Nat → Nat} {D : Nat → Int} {r r' : Int} (h : IsRk n E D r) (h' : IsRk n E D r') : r = r' := by
  rcases Int.lt_trichotomy r r' with q | q | q
  · exact absurd (h.2.mono (by omega)) h'.1
  · exact q
  · exact absurd (h'.2.mono (by omega)) h.1
theorem riemann_roch {n : Nat} {E : Nat → Nat → Nat} (hG : Gr n E) {D : Nat → Int} {r r' d : Int} (hd : 2 * d = 2 * sI D n - sI (fun v => (dg E v : Int) - 2) n) (h : IsRk n E D r) (h' : IsRk n E (fun v => (dg E v : Int) - 2 - D v) r') : r - r' = d := by
  have h1 : IsRk n E (fun v => (dg E v : Int) - 2 - D v) (r - d) := by
    refine ⟨fun hb => h.1 ?_, by have := bad_dual hG h.2 hd; rwa [show r + 1 - d = r - d + 1 by omega] at this⟩
    have h2 := bad_dual hG hb (d := - d) (by
      rw [sI_sub (fun v => (dg E v : Int) - 2) D]
      omega)
    have h3 : (fun v => (dg E v : Int) - 2 - ((dg E v : Int) - 2 - D v)) = D := funext fun v => by omega
    rw [h3] at h2
    rwa [show r - d - - d = r by omega] at h2
  have := isRk_one h1 h'
  omega
