/-! GRAPHS of at most 6 vertices (those from n on have no edges), topplings, the bound of their number, piles without a forbidden set -/
def sumN (f : Nat → Nat) : Nat → Nat
  | 0 => 0
  | n + 1 => sumN f n + f n
theorem sumN_eq {f g : Nat → Nat} : ∀ {n : Nat}, (∀ j, j < n → f j = g j) → sumN f n = sumN g n
  | 0, _ => rfl
  | n + 1, h => by
    show sumN f n + f n = sumN g n + g n
    rw [sumN_eq fun j hj => h j (by omega), h n (by omega)]
theorem sumN_le {f g : Nat → Nat} : ∀ {n : Nat}, (∀ j, j < n → f j ≤ g j) → sumN f n ≤ sumN g n
  | 0, _ => Nat.le_refl _
  | n + 1, h => Nat.add_le_add (sumN_le fun j hj => h j (by omega)) (h n (by omega))
theorem sumN_I (f : Nat → Nat) : ∀ n, ((sumN f n : Nat) : Int) = sI (fun j => (f j : Int)) n
  | 0 => rfl
  | n + 1 => by
    show ((sumN f n + f n : Nat) : Int) = sI (fun j => (f j : Int)) n + (f n : Int)
    rw [← sumN_I f n]; omega
theorem sumN_ge1 {f : Nat → Nat} {n : Nat} (c : Nat) (hc : c < n) : f c ≤ sumN f n := by
  have h := sI_ge1 (f := fun j => (f j : Int)) c hc fun j _ => Int.natCast_nonneg _
  rw [← sumN_I] at h
  exact Int.ofNat_le.mp h
def adv (v : Nat → Nat) (c t : Nat) : Nat → Nat := fun j => if j = c then v c + t else v j
theorem sumN_adv (v : Nat → Nat) (c t : Nat) (b : Nat → Nat) : ∀ n, sumN (fun d => adv v c t d * b d) n = sumN (fun d => v d * b d) n + (if c < n then t * b c else 0)
  | 0 => by simp [sumN]
  | n + 1 => by
    show sumN (fun d => adv v c t d * b d) n + adv v c t n * b n = sumN (fun d => v d * b d) n + v n * b n + _
    rw [sumN_adv v c t b n]
    unfold adv
    by_cases h : n = c
    · subst h
      rw [if_neg (Nat.lt_irrefl _), if_pos rfl, if_pos (Nat.lt_succ_self _), Nat.add_mul]
      omega
    · rw [if_neg h]
      by_cases h2 : c < n
      · rw [if_pos h2, if_pos (Nat.lt_succ_of_lt h2)]; omega
      · rw [if_neg h2, if_neg (by omega)]; omega
theorem sumN_adv1 (v : Nat → Nat) (c t n : Nat) (h : c < n) : sumN (adv v c t) n = sumN v n + t := by
  have h1 := sumN_adv v c t (fun _ => 1) n
  rw [if_pos h] at h1
  simpa using h1
/-- a graph of n vertices with edges E -/
def Gr (n : Nat) (E : Nat → Nat → Nat) : Prop := n ≤ 6 ∧ (∀ i j, E i j = E j i) ∧ (∀ i, E i i = 0) ∧ (∀ i j, n ≤ i → E i j = 0) ∧ ∀ i j, E i j ≤ 3
def dg (E : Nat → Nat → Nat) (v : Nat) : Nat := sumN (E v) 6
def rcv (E : Nat → Nat → Nat) (k : Nat → Nat) (j : Nat) : Nat := sumN (fun i => k i * E i j) 6
def Lap (E : Nat → Nat → Nat) (f : Nat → Int) (v : Nat) : Int := sI (fun w => (E v w : Int) * (f v - f w)) 6
theorem Lap_eq (E : Nat → Nat → Nat) (f : Nat → Int) (v : Nat) : Lap E f v = (dg E v : Int) * f v - sI (fun w => (E v w : Int) * f w) 6 := by
  unfold Lap dg
  rw [sumN_I, Int.mul_comm, ← sI_mul, ← sI_sub]
  exact sI_congr fun j _ => by rw [Int.mul_sub, Int.mul_comm (f v)]
theorem Lap_add (E : Nat → Nat → Nat) (f g : Nat → Int) (v : Nat) : Lap E (fun j => f j + g j) v = Lap E f v + Lap E g v := by
  unfold Lap
  rw [← sI_add]
  exact sI_congr fun j _ => by show (E v j : Int) * ((f v + g v) - (f j + g j)) = _; rw [← Int.mul_add]; congr 1; omega
theorem Lap_neg (E : Nat → Nat → Nat) (f : Nat → Int) (v : Nat) : Lap E (fun j => - f j) v = - Lap E f v := by
  have h := Lap_add E f (fun j => - f j) v
  have h0 : Lap E (fun j => f j + - f j) v = 0 := sI_0 fun j _ => by
    show (E v j : Int) * ((f v + - f v) - (f j + - f j)) = 0
    rw [show ((f v + - f v) - (f j + - f j)) = 0 by omega, Int.mul_zero]
  omega
theorem Lap_sub (E : Nat → Nat → Nat) (f g : Nat → Int) (v : Nat) : Lap E (fun j => f j - g j) v = Lap E f v - Lap E g v := by
  have h1 := Lap_add E f (fun j => - g j) v
  have h2 := Lap_neg E g v
  have h3 : Lap E (fun j => f j - g j) v = Lap E (fun j => f j + - g j) v := rfl
  omega
theorem Lap_congr (E : Nat → Nat → Nat) {f g : Nat → Int} {v : Nat} (hv : v < 6) (h : ∀ j, j < 6 → f j = g j) : Lap E f v = Lap E g v := sI_congr fun j hj => by rw [h v hv, h j hj]
/-- what a set loses by f goes over its border -/
theorem Lap_cut {n : Nat} {E : Nat → Nat → Nat} (hG : Gr n E) (f : Nat → Int) (S : Nat → Bool) : sI (fun i => if S i = true then Lap E f i else 0) 6 = sI (fun i => sI (fun m => if S i = true ∧ S m = false then (E i m : Int) * (f i - f m) else 0) 6) 6 := by
  have h1 : sI (fun i => if S i = true then Lap E f i else 0) 6 = sI (fun i => sI (fun m => if S i = true ∧ S m = false then (E i m : Int) * (f i - f m) else 0) 6) 6 + sI (fun i => sI (fun m => if S i = true ∧ S m = true then (E i m : Int) * (f i - f m) else 0) 6) 6 := by
    rw [← sI_add]
    refine sI_congr fun i _ => ?_
    rw [← sI_add]
    cases hS : S i
    · rw [if_neg (by decide)]
      exact (sI_0 fun m _ => by simp).symm
    · rw [if_pos rfl]
      exact sI_congr fun m _ => by cases hm : S m <;> simp
  have h2 : sI (fun i => sI (fun m => if S i = true ∧ S m = true then (E i m : Int) * (f i - f m) else 0) 6) 6 = - sI (fun i => sI (fun m => if S i = true ∧ S m = true then (E i m : Int) * (f i - f m) else 0) 6) 6 := by
    refine (sI_swap (fun i m => if S i = true ∧ S m = true then (E i m : Int) * (f i - f m) else 0) 6 6).trans ?_
    rw [← sI_neg]
    refine sI_congr fun j _ => ?_
    rw [← sI_neg]
    refine sI_congr fun i _ => ?_
    by_cases h : S i = true ∧ S j = true
    · rw [if_pos h, if_pos (And.symm h), hG.2.1 i j, show f i - f j = - (f j - f i) by omega, Int.mul_neg]
    · rw [if_neg h, if_neg (fun q : S j = true ∧ S i = true => h (And.symm q))]; rfl
  omega
/-- one is joined to each other one -/
def Conn (n : Nat) (E : Nat → Nat → Nat) : Prop := ∀ S : Nat → Bool, (∃ u, u < n ∧ S u = true) → (∀ v w, v < n → w < n → S v = true → 0 < E v w → S w = true) → ∀ v, v < n → S v = true
/-- none can topple -/
def Stl (E : Nat → Nat → Nat) (z : Nat) (g : Nat → Nat) : Prop := ∀ j, j < 6 → j ≠ z → 0 < dg E j → g j < dg E j
def Stb (E : Nat → Nat → Nat) (z : Nat) (c w : Nat → Nat) : Prop := ∀ j, j < 6 → j ≠ z → 0 < dg E j → c j + rcv E w j < dg E j + dg E j * w j
def dgS (E : Nat → Nat → Nat) (S : Nat → Bool) (v : Nat) : Nat := sumN (fun w => if S w = true then E v w else 0) 6
/-- no set of vertices but the sink is forbidden -/
def NFS (E : Nat → Nat → Nat) (z : Nat) (g : Nat → Nat) : Prop := ∀ S : Nat → Bool, S z = false → (∃ v, v < 6 ∧ S v = true) → ∃ v, v < 6 ∧ S v = true ∧ dgS E S v ≤ g v
/-- lawful topplings k bring c to g -/
def Leg (E : Nat → Nat → Nat) (z : Nat) (c g k : Nat → Nat) : Prop := (∀ j, j < 6 → g j + dg E j * k j = c j + rcv E k j) ∧ k z = 0 ∧ (∀ w, Stb E z c w → ∀ j, j < 6 → k j ≤ w j) ∧ (NFS E z c → NFS E z g) ∧ ∀ j, j < 6 → dg E j = 0 → k j = 0
def tpE (E : Nat → Nat → Nat) (v t : Nat) (g : Nat → Nat) : Nat → Nat := fun j => if j = v then g j - t * dg E v else g j + t * E v j
theorem rcv_adv (E : Nat → Nat → Nat) (k : Nat → Nat) (c t j : Nat) (h : c < 6) : rcv E (adv k c t) j = rcv E k j + t * E c j := by
  unfold rcv
  rw [sumN_adv k c t (fun d => E d j) 6, if_pos h]
theorem rcv_mono {E : Nat → Nat → Nat} {v w : Nat → Nat} (h : ∀ j, j < 6 → v j ≤ w j) (j : Nat) : rcv E v j ≤ rcv E w j := sumN_le fun d hd => Nat.mul_le_mul_right _ (h d hd)
theorem rcv_0 (E : Nat → Nat → Nat) (j : Nat) : rcv E (fun _ => 0) j = 0 := by
  unfold rcv
  rw [sumN_eq (g := fun _ => 0) (fun d _ => Nat.zero_mul _)]
  rfl
theorem leg_0 (E : Nat → Nat → Nat) (z : Nat) (c : Nat → Nat) : Leg E z c c (fun _ => 0) :=
  ⟨fun j _ => by rw [rcv_0]; rfl, rfl, fun w _ j _ => Nat.zero_le _, id, fun _ _ _ => rfl⟩
theorem nfs_step {n : Nat} {E : Nat → Nat → Nat} (hG : Gr n E) {z v t : Nat} {g : Nat → Nat} (hv : v < 6) (hvz : v ≠ z) (ht : t * dg E v ≤ g v) (h : NFS E z g) : NFS E z (tpE E v t g) := by
  intro S hSz ⟨u, hu, hSu⟩
  rcases Nat.eq_zero_or_pos t with rfl | ht1
  · obtain ⟨x, h1, h2, h3⟩ := h S hSz ⟨u, hu, hSu⟩
    refine ⟨x, h1, h2, ?_⟩
    unfold tpE
    split <;> simp <;> exact h3
  cases hSv : S v
  · obtain ⟨x, h1, h2, h3⟩ := h S hSz ⟨u, hu, hSu⟩
    refine ⟨x, h1, h2, ?_⟩
    have hx : x ≠ v := fun q => by rw [q, hSv] at h2; cases h2
    unfold tpE
    rw [if_neg hx]
    omega
  · -- the set without v
    have key : ∀ x, x < 6 → dgS E S x = dgS E (fun w => S w && decide (w ≠ v)) x + E x v := fun x hx => by
      have h1 := sI_upd (f := fun w => (((if (S w && decide (w ≠ v)) = true then E x w else 0 : Nat)) : Int)) (g := fun w => ((if S w = true then E x w else 0 : Nat) : Int)) v hv (fun j _ hj => by simp [hj])
      simp only [hSv] at h1
      unfold dgS
      have h2 := sumN_I (fun w => if S w = true then E x w else 0) 6
      have h3 := sumN_I (fun w => if (S w && decide (w ≠ v)) = true then E x w else 0) 6
      simp at h1 h2 h3
      simp
      omega
    by_cases hne : ∃ x, x < 6 ∧ (S x && decide (x ≠ v)) = true
    · obtain ⟨x, h1, h2, h3⟩ := h (fun w => S w && decide (w ≠ v)) (by simp [hSz]) hne
      simp at h2
      refine ⟨x, h1, h2.1, ?_⟩
      rw [key x h1]
      unfold tpE
      rw [if_neg h2.2, hG.2.1 x v]
      have h4 : E v x ≤ t * E v x := Nat.le_mul_of_pos_left _ ht1
      omega
    · refine ⟨v, hv, hSv, ?_⟩
      have h0 : dgS E S v = 0 := by
        rw [key v hv, hG.2.2.1 v]
        unfold dgS
        rw [sumN_eq (g := fun _ => 0) (fun j hj => by
          have : ¬ (S j && decide (j ≠ v)) = true := fun q => hne ⟨j, hj, q⟩
          rw [if_neg this])]
        rfl
      rw [h0]
      exact Nat.zero_le _
theorem leg_step {n : Nat} {E : Nat → Nat → Nat} (hG : Gr n E) {z v t : Nat} {c g k : Nat → Nat} (hv : v < 6) (hvz : v ≠ z) (hd : 0 < dg E v) (ht : t * dg E v ≤ g v) (h : Leg E z c g k) : Leg E z c (tpE E v t g) (adv k v t) := by
  obtain ⟨h1, h2, h3, h4, h5⟩ := h
  refine ⟨fun j hj => ?_, ?_, fun w hw j hj => ?_, fun q => nfs_step hG hv hvz ht (h4 q), fun j hj hdj => ?_⟩
  · rw [rcv_adv E k v t j hv]
    have h6 := h1 j hj
    unfold tpE adv
    by_cases hjv : j = v
    · subst hjv
      rw [if_pos rfl, if_pos rfl, hG.2.2.1 j, Nat.mul_add, Nat.mul_comm (dg E j) t]
      omega
    · rw [if_neg hjv, if_neg hjv]
      omega
  · unfold adv
    rw [if_neg (Ne.symm hvz)]; exact h2
  · have h6 := h3 w hw
    unfold adv
    by_cases hjv : j = v
    · subst hjv
      rw [if_pos rfl]
      have h7 := h1 j hj
      have h8 := rcv_mono (E := E) h6 j
      have h9 := hw j hj hvz hd
      have h10 : dg E j * (k j + t) < dg E j * (w j + 1) := by
        rw [Nat.mul_add, Nat.mul_add, Nat.mul_comm (dg E j) t, Nat.mul_one]
        omega
      have := Nat.lt_of_mul_lt_mul_left h10
      omega
    · rw [if_neg hjv]; exact h6 j hj
  · unfold adv
    have : j ≠ v := fun q => by rw [q] at hdj; omega
    rw [if_neg this]
    exact h5 j hj hdj
theorem leg_stb {E : Nat → Nat → Nat} {z : Nat} {c g k : Nat → Nat} (h : Leg E z c g k) (hs : Stl E z g) : Stb E z c k := fun j hj hjz hd => by
  have h1 := h.1 j hj
  have h2 := hs j hj hjz hd
  omega
/-- any lawful way to a settled pile is the same -/
theorem leg_same {E : Nat → Nat → Nat} {z : Nat} {c g k g' k' : Nat → Nat} (h : Leg E z c g k) (hs : Stl E z g) (h' : Leg E z c g' k') (hs' : Stl E z g') : (∀ j, j < 6 → k j = k' j) ∧ ∀ j, j < 6 → g j = g' j := by
  have h1 : ∀ j, j < 6 → k j = k' j := fun j hj => Nat.le_antisymm (h.2.2.1 k' (leg_stb h' hs') j hj) (h'.2.2.1 k (leg_stb h hs) j hj)
  refine ⟨h1, fun j hj => ?_⟩
  have h2 := h.1 j hj
  have h3 := h'.1 j hj
  have h4 : rcv E k j = rcv E k' j := sumN_eq fun d hd => by rw [h1 d hd]
  rw [h1 j hj] at h2
  omega
theorem leg_I {n : Nat} {E : Nat → Nat → Nat} (hG : Gr n E) {z : Nat} {c g k : Nat → Nat} (h : Leg E z c g k) {j : Nat} (hj : j < 6) : (g j : Int) = c j - Lap E (fun i => (k i : Int)) j := by
  rw [Lap_eq]
  have h1 := h.1 j hj
  have h2 : ((rcv E k j : Nat) : Int) = sI (fun w => (E j w : Int) * (k w : Int)) 6 := by
    unfold rcv
    rw [sumN_I]
    exact sI_congr fun i _ => by rw [hG.2.1 i j]; push_cast; rw [Int.mul_comm]
  have h3 : ((dg E j * k j : Nat) : Int) = (dg E j : Int) * (k j : Int) := by push_cast; rfl
  omega
