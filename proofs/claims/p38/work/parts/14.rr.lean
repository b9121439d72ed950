/-! DEBTS: what can be paid, ranks, and the theorem of Riemann and Roch for graphs (by orders of burning, as Baker and Norine) -/
theorem exists_settled {n : Nat} {E : Nat → Nat → Nat} (hG : Gr n E) (hC : Conn n E) (hn : 2 ≤ n) {z : Nat} (hz : z < n) (c : Nat → Nat) : ∃ g k, Leg E z c g k ∧ Stl E z g := by
  have hn6 := hG.1
  have key : ∀ (m : Nat) (g k : Nat → Nat), Leg E z c g k → 36 * sumN c 6 + 1 - sumN k 6 ≤ m → ∃ g k, Leg E z c g k ∧ Stl E z g := by
    intro m
    induction m with
    | zero =>
      intro g k h hm
      have h1 : sumN k 6 ≤ 36 * sumN c 6 := by
        have h2 : ∀ j, j < 6 → k j ≤ 5 * sumN c 6 := fun j hj => by
          rcases Nat.lt_or_ge j n with q | q
          · exact leg_bound hG hC hz h j q
          · have h3 : dg E j = 0 := by
              unfold dg
              rw [sumN_eq (g := fun _ => 0) (fun i _ => hG.2.2.2.1 j i q)]
              rfl
            rw [h.2.2.2.2 j hj h3]; exact Nat.zero_le _
        have h4 := sumN_le (f := k) (g := fun _ => 5 * sumN c 6) (n := 6) h2
        have h5 : sumN (fun _ => 5 * sumN c 6) 6 = 30 * sumN c 6 := by
          show 0 + 5 * sumN c 6 + 5 * sumN c 6 + 5 * sumN c 6 + 5 * sumN c 6 + 5 * sumN c 6 + 5 * sumN c 6 = _
          omega
        omega
      omega
    | succ m ih =>
      intro g k h hm
      by_cases hs : Stl E z g
      · exact ⟨g, k, h, hs⟩
      · have h1 : ∃ j, j < 6 ∧ j ≠ z ∧ 0 < dg E j ∧ dg E j ≤ g j := by
          refine Classical.byContradiction fun hno => hs fun j hj hjz hd => ?_
          rcases Nat.lt_or_ge (g j) (dg E j) with q | q
          · exact q
          · exact absurd ⟨j, hj, hjz, hd, q⟩ hno
        obtain ⟨j, hj, hjz, hd, hle⟩ := h1
        have h2 := leg_step hG hj hjz hd (t := 1) (by omega) h
        refine ih _ _ h2 ?_
        rw [sumN_adv1 k j 1 6 hj]
        omega
  exact key _ c (fun _ => 0) (leg_0 E z c) (Nat.le_refl _)
/-- rows on all vertices, alike by gives and takes -/
def Eqf (n : Nat) (E : Nat → Nat → Nat) (a b : Nat → Int) : Prop := ∃ f : Nat → Int, ∀ v, v < n → a v - b v = Lap E f v
def Win (n : Nat) (E : Nat → Nat → Nat) (a : Nat → Int) : Prop := ∃ b, Eqf n E a b ∧ ∀ v, v < n → 0 ≤ b v
theorem Eqf.symm {n : Nat} {E : Nat → Nat → Nat} {a b : Nat → Int} (h : Eqf n E a b) : Eqf n E b a := by
  obtain ⟨f, h1⟩ := h
  exact ⟨fun j => - f j, fun v hv => by rw [Lap_neg]; have := h1 v hv; omega⟩
theorem Eqf.trans {n : Nat} {E : Nat → Nat → Nat} {a b c : Nat → Int} (h : Eqf n E a b) (h2 : Eqf n E b c) : Eqf n E a c := by
  obtain ⟨f, h1⟩ := h
  obtain ⟨g, g1⟩ := h2
  exact ⟨fun j => f j + g j, fun v hv => by rw [Lap_add]; have := h1 v hv; have := g1 v hv; omega⟩
theorem Eqf.refl (n : Nat) (E : Nat → Nat → Nat) (a : Nat → Int) : Eqf n E a a := ⟨fun _ => 0, fun v _ => by
  have : Lap E (fun _ => 0) v = 0 := sI_0 fun j _ => by show (E v j : Int) * (0 - 0) = 0; rw [Int.sub_self, Int.mul_zero]
  omega⟩
theorem Eqf.move {n : Nat} {E : Nat → Nat → Nat} {a b : Nat → Int} (h : Eqf n E a b) (x : Nat → Int) : Eqf n E (fun v => a v - x v) (fun v => b v - x v) := by
  obtain ⟨f, h1⟩ := h
  exact ⟨f, fun v hv => by show (a v - x v) - (b v - x v) = _; have := h1 v hv; omega⟩
theorem Eqf.from {n : Nat} {E : Nat → Nat → Nat} {a b : Nat → Int} (h : Eqf n E a b) (x : Nat → Int) : Eqf n E (fun v => x v - a v) (fun v => x v - b v) := by
  obtain ⟨f, h1⟩ := h
  exact ⟨fun j => - f j, fun v hv => by rw [Lap_neg]; show (x v - a v) - (x v - b v) = _; have := h1 v hv; omega⟩
theorem Lap_sum {n : Nat} {E : Nat → Nat → Nat} (hG : Gr n E) (f : Nat → Int) : sI (Lap E f) 6 = 0 := by
  have h := Lap_cut hG f (fun _ => true)
  have h1 : sI (fun i => if true = true then Lap E f i else 0) 6 = sI (Lap E f) 6 := sI_congr fun j _ => if_pos rfl
  have h2 : sI (fun i => sI (fun m => if true = true ∧ true = false then (E i m : Int) * (f i - f m) else 0) 6) 6 = 0 := sI_0 fun i _ => sI_0 fun m _ => if_neg (by simp)
  exact h1.symm.trans (Eq.trans h h2)
theorem Lap_out {n : Nat} {E : Nat → Nat → Nat} (hG : Gr n E) (f : Nat → Int) {v : Nat} (hv : n ≤ v) : Lap E f v = 0 := sI_0 fun j _ => by rw [hG.2.2.2.1 v j hv]; exact Int.zero_mul _
theorem sI_cut6 {n : Nat} (hn : n ≤ 6) {f : Nat → Int} (h : ∀ j, n ≤ j → f j = 0) : sI f 6 = sI f n := by
  have key : ∀ d, sI f (n + d) = sI f n := by
    intro d
    induction d with
    | zero => rfl
    | succ d ih =>
      show sI f (n + d) + f (n + d) = _
      rw [ih, h (n + d) (by omega)]; omega
  have := key (6 - n)
  rwa [show n + (6 - n) = 6 by omega] at this
theorem Eqf.sum {n : Nat} {E : Nat → Nat → Nat} (hG : Gr n E) {a b : Nat → Int} (h : Eqf n E a b) : sI a n = sI b n := by
  obtain ⟨f, h1⟩ := h
  have h2 : sI (fun v => a v - b v) n = 0 := by
    rw [sI_congr h1, ← sI_cut6 hG.1 (fun j hj => Lap_out hG f hj)]
    exact Lap_sum hG f
  rw [sI_sub] at h2
  omega
/-- an order of the vertices -/
def Ord (n : Nat) (o : Nat → Int) : Prop := ∀ v w, v < n → w < n → o v = o w → v = w
/-- the edges to those before, less 1 -/
def nu (E : Nat → Nat → Nat) (n : Nat) (o : Nat → Int) (v : Nat) : Int := sI (fun w => if o w < o v then (E v w : Int) else 0) n - 1
/-- no row that is at most such a one can be paid -/
theorem nu_not {n : Nat} {E : Nat → Nat → Nat} (hG : Gr n E) (hn : 1 ≤ n) {o : Nat → Int} {a : Nat → Int} (h : ∀ v, v < n → a v ≤ nu E n o v) : ¬ Win n E a := by
  rintro ⟨b, ⟨f, h1⟩, hb⟩
  obtain ⟨u, hu, hmax⟩ := max_at f n (by omega)
  -- the first of the order among the highest
  obtain ⟨v, hv, hvm⟩ := max_at (fun w => if f w = f u then - o w else - o u - 1) n (by omega)
  have hfv : f v = f u := by
    have h2 := hvm u hu
    simp only [if_pos] at h2
    by_cases hq : f v = f u
    · exact hq
    · rw [if_neg hq] at h2; omega
  have hfirst : ∀ w, w < n → o w < o v → f w < f v := fun w hw hlt => by
    have h2 := hvm w hw
    simp only [hfv, if_pos] at h2
    have h3 := hmax w hw
    by_cases hq : f w = f u
    · rw [if_pos hq] at h2; omega
    · omega
  have h2 : nu E n o v + 1 ≤ Lap E f v := by
    unfold nu Lap
    have h3 : sI (fun w => (E v w : Int) * (f v - f w)) 6 = sI (fun w => (E v w : Int) * (f v - f w)) n := sI_cut6 hG.1 fun j hj => by
      rw [show E v j = 0 by rw [hG.2.1]; exact hG.2.2.2.1 j v hj]; exact Int.zero_mul _
    rw [h3]
    have h4 : sI (fun w => if o w < o v then (E v w : Int) else 0) n ≤ sI (fun w => (E v w : Int) * (f v - f w)) n := sI_le fun w hw => by
      split
      · rename_i hlt
        have h5 := hfirst w hw hlt
        have h6 : (E v w : Int) * 1 ≤ (E v w : Int) * (f v - f w) := Int.mul_le_mul_of_nonneg_left (by omega) (Int.natCast_nonneg _)
        rwa [Int.mul_one] at h6
      · have h5 := hmax w hw
        exact Int.mul_nonneg (Int.natCast_nonneg _) (by omega)
    omega
  have h3 := h1 v hv
  have h4 := h v hv
  have h5 := hb v hv
  omega
/-- the fire goes through all in some order -/
theorem burn_order {n : Nat} {E : Nat → Nat → Nat} (hG : Gr n E) {z : Nat} (hz : z < n) {c : Nat → Nat} (hN : NFS E z c) : ∃ o : Nat → Int, Ord n o ∧ (∀ v, v < n → v ≠ z → (dg E v : Int) ≤ c v + sI (fun w => if o w < o v then (E v w : Int) else 0) n) ∧ ∀ w, w < n → ¬ o w < o z := by
  have hn6 := hG.1
  have key : ∀ (m : Nat) (B : Nat → Bool) (o : Nat → Int) (t : Int), cnt (fun j => !B j) n ≤ m → B z = true → (∀ v, v < n → B v = true → o v < t) → (∀ v w, v < n → w < n → B v = true → B w = true → o v = o w → v = w) → (∀ v, v < n → B v = true → v ≠ z → (dg E v : Int) ≤ c v + sI (fun w => if B w = true ∧ o w < o v then (E v w : Int) else 0) n) → (∀ w, w < n → B w = true → ¬ o w < o z) →
      ∃ o : Nat → Int, Ord n o ∧ (∀ v, v < n → v ≠ z → (dg E v : Int) ≤ c v + sI (fun w => if o w < o v then (E v w : Int) else 0) n) ∧ ∀ w, w < n → ¬ o w < o z := by
    intro m
    induction m with
    | zero =>
      intro B o t h0 h1 h2 h3 h4 h5
      have hall : ∀ j, j < n → B j = true := fun j hj => by
        cases hB : B j
        · have := cnt_lt (P := fun _ => false) (Q := fun j => !B j) (n := n) j hj rfl (by simp [hB]) (fun _ _ q => by cases q)
          omega
        · rfl
      refine ⟨o, fun v w hv hw => h3 v w hv hw (hall v hv) (hall w hw), fun v hv hvz => ?_, fun w hw => h5 w hw (hall w hw)⟩
      have h6 := h4 v hv (hall v hv) hvz
      rwa [sI_congr (g := fun w => if o w < o v then (E v w : Int) else 0) fun w hw => by simp [hall w hw]] at h6
    | succ m ih =>
      intro B o t h0 h1 h2 h3 h4 h5
      by_cases hex : ∃ u, u < n ∧ B u = false
      · obtain ⟨u, hu, hBu⟩ := hex
        obtain ⟨v, hv6, hSv, hle⟩ := hN (fun w => decide (w < n) && !B w) (by simp [h1]) ⟨u, by omega, by simp [hu, hBu]⟩
        simp only [Bool.and_eq_true, decide_eq_true_eq, Bool.not_eq_true'] at hSv
        obtain ⟨hv, hBv⟩ := hSv
        have hvz : v ≠ z := fun q => by rw [q, h1] at hBv; cases hBv
        refine ih (fun w => B w || decide (w = v)) (fun w => if w = v then t else o w) (t + 1) ?_ (by simp [h1]) ?_ ?_ ?_ ?_
        · have := cnt_lt (P := fun j => !(B j || decide (j = v))) (Q := fun j => !B j) (n := n) v hv (by simp) (by simp [hBv]) (fun j _ q => by simp at q ⊢; exact q.1)
          omega
        · intro w hw hBw
          by_cases hwv : w = v
          · simp [hwv]; omega
          · simp [hwv] at hBw ⊢
            have := h2 w hw hBw
            omega
        · intro x y hx hy hBx hBy hxy
          by_cases hxv : x = v
          · by_cases hyv : y = v
            · rw [hxv, hyv]
            · simp [hxv, hyv] at hBy hxy
              have := h2 y hy hBy
              omega
          · by_cases hyv : y = v
            · simp [hxv, hyv] at hBx hxy
              have := h2 x hx hBx
              omega
            · simp [hxv, hyv] at hBx hBy hxy
              exact h3 x y hx hy hBx hBy hxy
        · intro x hx hBx hxz
          by_cases hxv : x = v
          · subst hxv
            have h6 := dgS_add E (fun w => decide (w < n) && !B w) x
            have h7 : ((sumN (fun w => if (decide (w < n) && !B w) = false then E x w else 0) 6 : Nat) : Int) ≤ sI (fun w => if (B w || decide (w = x)) = true ∧ (if w = x then t else o w) < (if x = x then t else o x) then (E x w : Int) else 0) n := by
              rw [sumN_I, sI_cut6 hn6 (fun j hj => by rw [show E x j = 0 by rw [hG.2.1]; exact hG.2.2.2.1 j x hj]; split <;> rfl)]
              refine sI_le fun w hw => ?_
              by_cases hBw : B w = true
              · have hwx : w ≠ x := fun q => by rw [q, hBv] at hBw; cases hBw
                have := h2 w hw hBw
                simp [hw, hBw, hwx]
                omega
              · simp only [Bool.not_eq_true] at hBw
                simp [hw, hBw]
                split <;> omega
            have h8 : dgS E (fun w => decide (w < n) && !B w) x ≤ c x := hle
            omega
          · have hBx2 : B x = true := by simpa [hxv] using hBx
            have h6 := h4 x hx hBx2 hxz
            have h7 : sI (fun w => if B w = true ∧ o w < o x then (E x w : Int) else 0) n ≤ sI (fun w => if (B w || decide (w = v)) = true ∧ (if w = v then t else o w) < (if x = v then t else o x) then (E x w : Int) else 0) n := sI_le fun w hw => by
              by_cases hwv : w = v
              · rw [hwv, hBv]; simp; split <;> omega
              · simp [hwv, hxv]
            omega
        · intro w hw hBw
          by_cases hwv : w = v
          · simp only [hwv, if_pos, if_neg (Ne.symm hvz)]
            have := h2 z hz h1
            omega
          · simp only [if_neg hwv, if_neg (Ne.symm hvz)]
            exact h5 w hw (by simpa [hwv] using hBw)
      · refine ih B o t ?_ h1 h2 h3 h4 h5
        have h6 : ∀ k, k ≤ n → cnt (fun j => !B j) k = 0 := by
          intro k
          induction k with
          | zero => intro _; rfl
          | succ k ihk =>
            intro hk
            show cnt _ k + _ = 0
            rw [ihk (by omega)]
            cases hB : B k
            · exact absurd ⟨k, by omega, hB⟩ hex
            · simp [hB]
        rw [h6 n (Nat.le_refl _)]
        omega
  refine key n (fun w => decide (w = z)) (fun _ => 0) 1 (cnt_le _ n) (by simp) (fun v _ _ => by omega) (fun v w _ _ h1 h2 _ => by simp at h1 h2; rw [h1, h2]) (fun v _ h1 h2 => by simp at h1; exact absurd h1 h2) (fun w _ h1 => by simp)
