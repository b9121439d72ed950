/-! THE BOUND of topplings; piles that come again are alone in their class -/
theorem sI_filter_sub (S : Nat → Bool) (a b : Nat → Int) (n : Nat) : sI (fun i => if S i = true then a i - b i else 0) n = sI (fun i => if S i = true then a i else 0) n - sI (fun i => if S i = true then b i else 0) n := by
  rw [← sI_sub]
  exact sI_congr fun j _ => by cases S j <;> simp
/-- over an edge the numbers of topplings differ by no more than all chips -/
theorem leg_gap {n : Nat} {E : Nat → Nat → Nat} (hG : Gr n E) {z : Nat} {c g k : Nat → Nat} (h : Leg E z c g k) {a b : Nat} (ha : a < 6) (hb : b < 6) (hE : 0 < E a b) : k a ≤ k b + sumN c 6 := by
  rcases Nat.lt_or_ge (k b) (k a) with hlt | hge
  case inr => omega
  let S : Nat → Bool := fun i => decide (k a ≤ k i)
  have hcut := Lap_cut hG (fun i => (k i : Int)) S
  have h1 : sI (fun i => if S i = true then Lap E (fun i => (k i : Int)) i else 0) 6 = sI (fun i => if S i = true then (c i : Int) else 0) 6 - sI (fun i => if S i = true then (g i : Int) else 0) 6 := by
    rw [← sI_filter_sub]
    exact sI_congr fun j hj => by
      have := leg_I hG h hj
      cases hS : S j
      · simp
      · simp only [if_true]; omega
  have h2 : 0 ≤ sI (fun i => if S i = true then (g i : Int) else 0) 6 := sI_nn fun j _ => by split <;> omega
  have h3 : sI (fun i => if S i = true then (c i : Int) else 0) 6 ≤ ((sumN c 6 : Nat) : Int) := by
    rw [sumN_I]
    exact sI_le fun j _ => by split <;> omega
  have hnn : ∀ i m, 0 ≤ (if S i = true ∧ S m = false then (E i m : Int) * ((k i : Int) - (k m : Int)) else 0) := fun i m => by
    split
    · rename_i hq
      have h5 : k a ≤ k i := by simpa [S] using hq.1
      have h6 : k m < k a := by simpa [S] using hq.2
      exact Int.mul_nonneg (Int.natCast_nonneg _) (by omega)
    · exact Int.le_refl _
  have h4 : (E a b : Int) * ((k a : Int) - (k b : Int)) ≤ sI (fun i => sI (fun m => if S i = true ∧ S m = false then (E i m : Int) * ((k i : Int) - (k m : Int)) else 0) 6) 6 := by
    have h5 := sI_ge1 (f := fun i => sI (fun m => if S i = true ∧ S m = false then (E i m : Int) * ((k i : Int) - (k m : Int)) else 0) 6) a ha fun i _ => sI_nn fun m _ => hnn i m
    have h6 := sI_ge1 (f := fun m => if S a = true ∧ S m = false then (E a m : Int) * ((k a : Int) - (k m : Int)) else 0) b hb fun m _ => hnn a m
    have h7 : S a = true ∧ S b = false := ⟨by simp [S], by simp [S]; omega⟩
    simp only [if_pos h7] at h6
    exact Int.le_trans h6 h5
  have h8 : (k a : Int) - (k b : Int) ≤ (E a b : Int) * ((k a : Int) - (k b : Int)) := by
    have h9 : (1 : Int) * ((k a : Int) - (k b : Int)) ≤ (E a b : Int) * ((k a : Int) - (k b : Int)) := Int.mul_le_mul_of_nonneg_right (by omega) (by omega)
    rwa [Int.one_mul] at h9
  omega
theorem conn_out {n : Nat} {E : Nat → Nat → Nat} (hC : Conn n E) {S : Nat → Bool} (h1 : ∃ u, u < n ∧ S u = true) (h2 : ∃ u, u < n ∧ S u = false) : ∃ v w, v < n ∧ w < n ∧ S v = true ∧ S w = false ∧ 0 < E v w := by
  refine Classical.byContradiction fun hno => ?_
  obtain ⟨u, hu, hSu⟩ := h2
  have := hC S h1 (fun v w hv hw hSv hE => by
    cases hSw : S w
    · exact absurd ⟨v, w, hv, hw, hSv, hSw, hE⟩ hno
    · rfl) u hu
  rw [hSu] at this
  cases this
theorem leg_bound {n : Nat} {E : Nat → Nat → Nat} (hG : Gr n E) (hC : Conn n E) {z : Nat} (hz : z < n) {c g k : Nat → Nat} (h : Leg E z c g k) : ∀ j, j < n → k j ≤ 5 * sumN c 6 := by
  have hn := hG.1
  have key : ∀ d : Nat, min n (d + 1) ≤ cnt (fun j => decide (k j ≤ d * sumN c 6)) n := by
    intro d
    induction d with
    | zero =>
      have h1 := cnt_lt (P := fun _ => false) (Q := fun j => decide (k j ≤ 0 * sumN c 6)) z hz rfl (by simp [h.2.1]) (fun j _ q => by cases q)
      omega
    | succ d ih =>
      have hm : ∀ j, j < n → decide (k j ≤ d * sumN c 6) = true → decide (k j ≤ (d + 1) * sumN c 6) = true := fun j _ q => by
        simp only [decide_eq_true_eq] at q ⊢
        rw [Nat.succ_mul]; omega
      by_cases hall : ∃ u, u < n ∧ decide (k u ≤ d * sumN c 6) = false
      · obtain ⟨v, w, hv, hw, h1, h2, h3⟩ := conn_out hC (S := fun j => decide (k j ≤ d * sumN c 6)) ⟨z, hz, by simp [h.2.1]⟩ hall
        have h4 := leg_gap hG h (show w < 6 by omega) (show v < 6 by omega) (by rw [hG.2.1]; exact h3)
        have h5 := cnt_lt (P := fun j => decide (k j ≤ d * sumN c 6)) (Q := fun j => decide (k j ≤ (d + 1) * sumN c 6)) w hw h2 (by
          simp only [decide_eq_true_eq] at h1 ⊢
          rw [Nat.succ_mul]; omega) hm
        omega
      · have h5 : cnt (fun j => decide (k j ≤ (d + 1) * sumN c 6)) n = n := by
          have h6 : ∀ m, m ≤ n → cnt (fun j => decide (k j ≤ (d + 1) * sumN c 6)) m = m := by
            intro m
            induction m with
            | zero => intro _; rfl
            | succ m ihm =>
              intro hmn
              show cnt _ m + _ = _
              rw [ihm (by omega)]
              have h7 : decide (k m ≤ d * sumN c 6) = true := by
                cases hq : decide (k m ≤ d * sumN c 6)
                · exact absurd ⟨m, by omega, hq⟩ hall
                · rfl
              have h8 := hm m (by omega) h7
              simp only [h8, if_true]
          exact h6 n (Nat.le_refl _)
        omega
  intro j hj
  have h1 := key 5
  have h2 := cnt_all (P := fun j => decide (k j ≤ 5 * sumN c 6)) (n := n) (by omega) j hj
  simpa using h2
theorem conn_dg {n : Nat} {E : Nat → Nat → Nat} (hG : Gr n E) (hC : Conn n E) (hn : 2 ≤ n) {v : Nat} (hv : v < n) : 0 < dg E v := by
  obtain ⟨a, b, ha, hb, h1, h2, h3⟩ := conn_out hC (S := fun j => decide (j = v)) ⟨v, hv, by simp⟩ (by
    by_cases h : v = 0
    · exact ⟨1, by omega, by simp; omega⟩
    · exact ⟨0, by omega, by simp; omega⟩)
  simp only [decide_eq_true_eq] at h1
  subst h1
  have h4 := sumN_ge1 (f := E a) (n := 6) b (by have := hG.1; omega)
  unfold dg
  omega
theorem max_at (f : Nat → Int) : ∀ n, 0 < n → ∃ v, v < n ∧ ∀ w, w < n → f w ≤ f v
  | 0, h => absurd h (Nat.lt_irrefl _)
  | n + 1, _ => by
    rcases Nat.eq_zero_or_pos n with rfl | hn
    · exact ⟨0, by omega, fun w hw => by rw [show w = 0 by omega]; exact Int.le_refl _⟩
    · obtain ⟨v, hv, h⟩ := max_at f n hn
      by_cases hq : f v ≤ f n
      · refine ⟨n, by omega, fun w hw => ?_⟩
        by_cases hwn : w = n
        · rw [hwn]; exact Int.le_refl _
        · have := h w (by omega); omega
      · refine ⟨v, by omega, fun w hw => ?_⟩
        by_cases hwn : w = n
        · rw [hwn]; omega
        · exact h w (by omega)
theorem dgS_add (E : Nat → Nat → Nat) (S : Nat → Bool) (v : Nat) : dgS E S v + sumN (fun w => if S w = false then E v w else 0) 6 = dg E v := by
  unfold dgS dg
  have h1 := sumN_I (fun w => if S w = true then E v w else 0) 6
  have h2 := sumN_I (fun w => if S w = false then E v w else 0) 6
  have h3 := sumN_I (E v) 6
  have h4 : sI (fun j => (E v j : Int)) 6 = sI (fun j => ((if S j = true then E v j else 0 : Nat) : Int)) 6 + sI (fun j => ((if S j = false then E v j else 0 : Nat) : Int)) 6 := by
    rw [← sI_add]
    exact sI_congr fun j _ => by cases S j <;> simp
  omega
/-- alike but for topplings of the others than the sink -/
def Eqv (n : Nat) (E : Nat → Nat → Nat) (z : Nat) (a b : Nat → Int) : Prop := ∃ f : Nat → Int, f z = 0 ∧ ∀ v, v < n → v ≠ z → a v - b v = Lap E f v
theorem Eqv.refl (n : Nat) (E : Nat → Nat → Nat) (z : Nat) (a : Nat → Int) : Eqv n E z a a := ⟨fun _ => 0, rfl, fun v _ _ => by
  have : Lap E (fun _ => 0) v = 0 := sI_0 fun j _ => by show (E v j : Int) * (0 - 0) = 0; rw [Int.sub_self, Int.mul_zero]
  omega⟩
theorem Eqv.symm {n : Nat} {E : Nat → Nat → Nat} {z : Nat} {a b : Nat → Int} (h : Eqv n E z a b) : Eqv n E z b a := by
  obtain ⟨f, h0, h1⟩ := h
  exact ⟨fun j => - f j, by simp [h0], fun v hv hz => by rw [Lap_neg]; have := h1 v hv hz; omega⟩
theorem Eqv.trans {n : Nat} {E : Nat → Nat → Nat} {z : Nat} {a b c : Nat → Int} (h : Eqv n E z a b) (h2 : Eqv n E z b c) : Eqv n E z a c := by
  obtain ⟨f, h0, h1⟩ := h
  obtain ⟨g, g0, g1⟩ := h2
  exact ⟨fun j => f j + g j, by simp [h0, g0], fun v hv hz => by rw [Lap_add]; have := h1 v hv hz; have := g1 v hv hz; omega⟩
theorem leg_eqv {n : Nat} {E : Nat → Nat → Nat} (hG : Gr n E) {z : Nat} {c g k : Nat → Nat} (h : Leg E z c g k) : Eqv n E z (fun j => (c j : Int)) (fun j => (g j : Int)) := ⟨fun i => (k i : Int), by show ((k z : Nat) : Int) = 0; rw [h.2.1]; rfl, fun v hv _ => by
  have := leg_I hG h (show v < 6 by have := hG.1; omega)
  show (c v : Int) - (g v : Int) = _
  omega⟩
theorem rep_half {n : Nat} {E : Nat → Nat → Nat} (hG : Gr n E) (hC : Conn n E) (hn : 2 ≤ n) {z : Nat} (hz : z < n) {c c' : Nat → Nat} (hs : Stl E z c) (hN : NFS E z c') {f : Nat → Int} (h0 : f z = 0) (h1 : ∀ v, v < n → v ≠ z → (c v : Int) - (c' v : Int) = Lap E f v) : ∀ v, v < n → f v ≤ 0 := by
  obtain ⟨u, hu, hmax⟩ := max_at f n (by omega)
  intro v hv
  have hvu := hmax v hv
  refine Classical.byContradiction fun hpos => ?_
  have hn6 := hG.1
  obtain ⟨x, hx, hSx, hle⟩ := hN (fun w => decide (w < n) && decide (f w = f u)) (by simp [h0]; omega) ⟨u, by omega, by simp [hu]⟩
  simp only [Bool.and_eq_true, decide_eq_true_eq] at hSx
  have hxz : x ≠ z := fun q => by rw [q, h0] at hSx; omega
  have h2 := h1 x hSx.1 hxz
  have h3 := hs x hx hxz (conn_dg hG hC hn hSx.1)
  have h4 := dgS_add E (fun w => decide (w < n) && decide (f w = f u)) x
  have h5 : ((sumN (fun w => if (decide (w < n) && decide (f w = f u)) = false then E x w else 0) 6 : Nat) : Int) ≤ Lap E f x := by
    rw [sumN_I]
    refine sI_le fun j hj => ?_
    by_cases hjn : j < n
    · have h6 := hmax j hjn
      by_cases hfj : f j = f u
      · simp only [hjn, hfj, decide_true, Bool.and_self, if_neg (by decide : ¬ true = false)]
        rw [hSx.2, Int.sub_self, Int.mul_zero]; exact Int.le_refl _
      · simp only [hjn, hfj, decide_true, decide_false, Bool.and_false, if_pos rfl]
        have h7 : (E x j : Int) * 1 ≤ (E x j : Int) * (f x - f j) := Int.mul_le_mul_of_nonneg_left (by rw [hSx.2]; omega) (Int.natCast_nonneg _)
        rwa [Int.mul_one] at h7
    · have h8 : E x j = 0 := by rw [hG.2.1]; exact hG.2.2.2.1 j x (by omega)
      rw [h8]
      simp
  have h9 : dgS E (fun w => decide (w < n) && decide (f w = f u)) x ≤ c' x := hle
  omega
/-- settled piles without a forbidden set, alike: the same -/
theorem rep_same {n : Nat} {E : Nat → Nat → Nat} (hG : Gr n E) (hC : Conn n E) (hn : 2 ≤ n) {z : Nat} (hz : z < n) {c c' : Nat → Nat} (hs : Stl E z c) (hs' : Stl E z c') (hN : NFS E z c) (hN' : NFS E z c') (he : Eqv n E z (fun j => (c j : Int)) (fun j => (c' j : Int))) : ∀ v, v < n → v ≠ z → c v = c' v := by
  obtain ⟨f, h0, h1⟩ := he
  have a1 := rep_half hG hC hn hz hs hN' h0 h1
  have a2 := rep_half hG hC hn hz (f := fun j => - f j) hs' hN (by simp [h0]) (fun v hv hvz => by rw [Lap_neg]; have h9 : (c v : Int) - (c' v : Int) = Lap E f v := h1 v hv hvz; omega)
  intro v hv hvz
  have hn6 := hG.1
  have h2 := h1 v hv hvz
  have h3 : Lap E f v = 0 := sI_0 fun j hj => by
    by_cases hjn : j < n
    · have b1 := a1 j hjn
      have b2 := a2 j hjn
      have b3 := a1 v hv
      have b4 := a2 v hv
      rw [show f v - f j = 0 by omega, Int.mul_zero]
    · rw [show E v j = 0 by rw [hG.2.1]; exact hG.2.2.2.1 j v (by omega)]
      exact Int.zero_mul _
  have h4 : (c v : Int) - (c' v : Int) = Lap E f v := h2
  omega
theorem nfs_up {E : Nat → Nat → Nat} {z : Nat} {g g' : Nat → Nat} (h : ∀ j, j < 6 → g j ≤ g' j) (hN : NFS E z g) : NFS E z g' := fun S h1 h2 => by
  obtain ⟨v, h3, h4, h5⟩ := hN S h1 h2
  exact ⟨v, h3, h4, Nat.le_trans h5 (h v h3)⟩
/-- a pile with the degree less 1 everywhere, or more -/
theorem nfs_full {n : Nat} {E : Nat → Nat → Nat} (hG : Gr n E) (hC : Conn n E) {z : Nat} (hz : z < n) {g : Nat → Nat} (h : ∀ v, v < n → v ≠ z → dg E v ≤ g v + 1) : NFS E z g := by
  intro S hSz ⟨u, hu, hSu⟩
  by_cases hex : ∃ v, v < n ∧ S v = true
  · obtain ⟨v, w, hv, hw, h1, h2, h3⟩ := conn_out hC (S := S) hex ⟨z, hz, hSz⟩
    refine ⟨v, by have := hG.1; omega, h1, ?_⟩
    have h4 := h v hv (fun q => by rw [q, hSz] at h1; cases h1)
    have h5 := dgS_add E S v
    have h6 : (if S w = false then E v w else 0) ≤ sumN (fun w => if S w = false then E v w else 0) 6 := sumN_ge1 (f := fun w => if S w = false then E v w else 0) (n := 6) w (by have := hG.1; omega)
    rw [if_pos h2] at h6
    omega
  · refine ⟨u, hu, hSu, ?_⟩
    have hun : n ≤ u := by
      rcases Nat.lt_or_ge u n with q | q
      · exact absurd ⟨u, q, hSu⟩ hex
      · exact q
    have h0 : dgS E S u = 0 := by
      unfold dgS
      rw [sumN_eq (g := fun _ => 0) (fun j _ => by rw [hG.2.2.2.1 u j hun]; split <;> rfl)]
      rfl
    rw [h0]
    exact Nat.zero_le _
/-- the pile that comes again and is alike to a row -/
def Rep (n : Nat) (E : Nat → Nat → Nat) (z : Nat) (r : Nat → Int) (g : Nat → Nat) : Prop := Stl E z g ∧ NFS E z g ∧ Eqv n E z r (fun j => (g j : Int))
theorem rep_one {n : Nat} {E : Nat → Nat → Nat} (hG : Gr n E) (hC : Conn n E) (hn : 2 ≤ n) {z : Nat} (hz : z < n) {r r' : Nat → Int} {g g' : Nat → Nat} (h : Rep n E z r g) (h' : Rep n E z r' g') (he : Eqv n E z r r') : ∀ v, v < n → v ≠ z → g v = g' v :=
  rep_same hG hC hn hz h.1 h'.1 h.2.1 h'.2.1 (h.2.2.symm.trans (he.trans h'.2.2))
