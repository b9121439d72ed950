/-! DETERMINANTS of the first m rows and columns -/
def sgn (j : Nat) : Int := if j % 2 = 0 then 1 else -1
theorem sgn_s (j : Nat) : sgn (j + 1) = - sgn j := by
  unfold sgn
  rcases Nat.mod_two_eq_zero_or_one j with h | h
  · rw [if_pos h, if_neg (by omega)]
  · rw [if_pos (by omega), if_neg (by omega)]; rfl
def skp (j k : Nat) : Nat := if k < j then k else k + 1
theorem skp_lt {j k m : Nat} (h : k < m) : skp j k < m + 1 := by unfold skp; split <;> omega
theorem skp_0 (k : Nat) : skp 0 k = k + 1 := if_neg (Nat.not_lt_zero _)
theorem skp_ss (j k : Nat) : skp (j + 1) (k + 1) = skp j k + 1 := by unfold skp; split <;> split <;> omega
theorem skp_s0 (j : Nat) : skp (j + 1) 0 = 0 := if_pos (Nat.succ_pos _)
def det : Nat → (Nat → Nat → Int) → Int
  | 0, _ => 1
  | m + 1, A => sI (fun j => sgn j * (A 0 j * det m (fun i k => A (i + 1) (skp j k)))) (m + 1)
theorem det_congr : ∀ {m : Nat} {A B : Nat → Nat → Int}, (∀ i j, i < m → j < m → A i j = B i j) → det m A = det m B
  | 0, _, _, _ => rfl
  | m + 1, A, B, h => sI_congr fun j hj => by
    show sgn j * (A 0 j * _) = sgn j * (B 0 j * _)
    rw [h 0 j (by omega) hj, det_congr (A := fun i k => A (i + 1) (skp j k)) (B := fun i k => B (i + 1) (skp j k)) fun i k hi hk => h (i + 1) (skp j k) (by omega) (skp_lt hk)]
theorem sI_adj {f g : Nat → Int} {c n : Nat} (hc : c + 1 < n) (h1 : g c = f (c + 1)) (h2 : g (c + 1) = f c) (h : ∀ j, j < n → j ≠ c → j ≠ c + 1 → g j = f j) : sI g n = sI f n := by
  have a1 := sI_upd (f := f) (g := fun j => if j = c then f (c + 1) else f j) c (n := n) (by omega) (fun j _ hj => if_neg hj)
  have a2 := sI_upd (f := fun j => if j = c then f (c + 1) else f j) (g := g) (c + 1) (n := n) hc (fun j hj hjc => by
    by_cases q : j = c
    · rw [if_pos q, q, h1]
    · rw [if_neg q]; exact h j hj q hjc)
  rw [if_pos rfl] at a1
  rw [if_neg (by omega), h2] at a2
  omega
theorem sI_shift (f : Nat → Int) : ∀ n, sI f (n + 1) = f 0 + sI (fun j => f (j + 1)) n
  | 0 => by show 0 + f 0 = f 0 + 0; omega
  | n + 1 => by
    show sI f (n + 1) + f (n + 1) = f 0 + (sI (fun j => f (j + 1)) n + f (n + 1))
    rw [sI_shift f n]; omega
/-- a column is a sum of multiples -/
theorem det_col_lin : ∀ {m : Nat} {A B C : Nat → Nat → Int} (c : Nat) (x y : Int), c < m → (∀ i, C i c = x * A i c + y * B i c) → (∀ i j, j ≠ c → A i j = C i j) → (∀ i j, j ≠ c → B i j = C i j) → det m C = x * det m A + y * det m B
  | 0, _, _, _, _, _, _, h, _, _, _ => absurd h (Nat.not_lt_zero _)
  | m + 1, A, B, C, c, x, y, hc, h1, h2, h3 => by
    show sI _ (m + 1) = x * sI _ (m + 1) + y * sI _ (m + 1)
    rw [← sI_mul, ← sI_mul, ← sI_add]
    refine sI_congr fun j hj => ?_
    by_cases hjc : j = c
    · subst hjc
      have e1 : det m (fun i k => A (i + 1) (skp j k)) = det m (fun i k => C (i + 1) (skp j k)) := det_congr fun i k _ _ => h2 _ _ (by unfold skp; split <;> omega)
      have e2 : det m (fun i k => B (i + 1) (skp j k)) = det m (fun i k => C (i + 1) (skp j k)) := det_congr fun i k _ _ => h3 _ _ (by unfold skp; split <;> omega)
      rw [e1, e2, h1 0]
      grind
    · have hcl : (if c < j then c else c - 1) < m := by split <;> omega
      have hsk : ∀ k, skp j k = c ↔ k = (if c < j then c else c - 1) := fun k => by unfold skp; split <;> split <;> omega
      have e := det_col_lin (m := m) (A := fun i k => A (i + 1) (skp j k)) (B := fun i k => B (i + 1) (skp j k)) (C := fun i k => C (i + 1) (skp j k)) (if c < j then c else c - 1) x y hcl
        (fun i => by
          have := (hsk (if c < j then c else c - 1)).mpr rfl
          simp only [this]; exact h1 _)
        (fun i k hk => h2 _ _ (fun q => hk ((hsk k).mp q))) (fun i k hk => h3 _ _ (fun q => hk ((hsk k).mp q)))
      rw [e, h2 0 j hjc, h3 0 j hjc]
      grind
/-- two columns side by side change places -/
theorem det_col_swap : ∀ {m : Nat} {A B : Nat → Nat → Int} (c : Nat), c + 1 < m → (∀ i, B i c = A i (c + 1)) → (∀ i, B i (c + 1) = A i c) → (∀ i j, j ≠ c → j ≠ c + 1 → B i j = A i j) → det m B = - det m A
  | 0, _, _, _, h, _, _, _ => absurd h (Nat.not_lt_zero _)
  | m + 1, A, B, c, hc, h1, h2, h3 => by
    show sI _ (m + 1) = - sI _ (m + 1)
    rw [show ∀ x : Int, - x = (-1) * x by intro x; omega, ← sI_mul]
    refine sI_adj hc ?_ ?_ ?_
    · have e1 : det m (fun i k => B (i + 1) (skp c k)) = det m (fun i k => A (i + 1) (skp (c + 1) k)) := det_congr fun i k _ _ => by
        by_cases hk : k = c
        · subst hk
          rw [show skp k k = k + 1 by unfold skp; simp, show skp (k + 1) k = k by unfold skp; simp]
          exact h2 _
        · rw [h3 _ _ (by unfold skp; split <;> omega) (by unfold skp; split <;> omega)]
          congr 1
          unfold skp; split <;> split <;> omega
      rw [e1, h1 0, sgn_s]
      grind
    · have e1 : det m (fun i k => B (i + 1) (skp (c + 1) k)) = det m (fun i k => A (i + 1) (skp c k)) := det_congr fun i k _ _ => by
        by_cases hk : k = c
        · subst hk
          rw [show skp k k = k + 1 by unfold skp; simp, show skp (k + 1) k = k by unfold skp; simp]
          exact h1 _
        · rw [h3 _ _ (by unfold skp; split <;> omega) (by unfold skp; split <;> omega)]
          congr 1
          unfold skp; split <;> split <;> omega
      rw [e1, h2 0, sgn_s]
      grind
    · intro j hj hjc hjc1
      have e1 : det m (fun i k => B (i + 1) (skp j k)) = - det m (fun i k => A (i + 1) (skp j k)) := by
        by_cases hlt : j < c
        · refine det_col_swap (c - 1) (by omega) (fun i => ?_) (fun i => ?_) (fun i k hk1 hk2 => ?_)
          · show B _ (skp j (c - 1)) = A _ (skp j (c - 1 + 1))
            rw [show skp j (c - 1) = c by unfold skp; split <;> omega, show skp j (c - 1 + 1) = c + 1 by unfold skp; split <;> omega]
            exact h1 _
          · show B _ (skp j (c - 1 + 1)) = A _ (skp j (c - 1))
            rw [show skp j (c - 1) = c by unfold skp; split <;> omega, show skp j (c - 1 + 1) = c + 1 by unfold skp; split <;> omega]
            exact h2 _
          · exact h3 _ _ (by unfold skp; split <;> omega) (by unfold skp; split <;> omega)
        · refine det_col_swap c (by omega) (fun i => ?_) (fun i => ?_) (fun i k hk1 hk2 => ?_)
          · show B _ (skp j c) = A _ (skp j (c + 1))
            rw [show skp j c = c by unfold skp; split <;> omega, show skp j (c + 1) = c + 1 by unfold skp; split <;> omega]
            exact h1 _
          · show B _ (skp j (c + 1)) = A _ (skp j c)
            rw [show skp j c = c by unfold skp; split <;> omega, show skp j (c + 1) = c + 1 by unfold skp; split <;> omega]
            exact h2 _
          · exact h3 _ _ (by unfold skp; split <;> omega) (by unfold skp; split <;> omega)
      rw [e1, h3 0 j hjc hjc1]
      grind
/-- two columns alike -/
theorem det_col_eq {m : Nat} : ∀ (d : Nat) {A : Nat → Nat → Int} {a : Nat}, a + d + 1 < m → (∀ i, A i a = A i (a + d + 1)) → det m A = 0
  | 0, A, a, hm, h => by
    have e := det_col_swap (m := m) (A := A) (B := A) a (by omega) (fun i => h i) (fun i => (h i).symm) (fun _ _ _ _ => rfl)
    omega
  | d + 1, A, a, hm, h => by
    let B : Nat → Nat → Int := fun i j => if j = a + d + 1 then A i (a + d + 2) else if j = a + d + 2 then A i (a + d + 1) else A i j
    have e := det_col_swap (m := m) (A := A) (B := B) (a + d + 1) (by omega) (fun i => by simp [B]) (fun i => by simp [B]) (fun i j h1 h2 => by simp only [B]; rw [if_neg h1, if_neg h2])
    have e2 := det_col_eq (m := m) d (A := B) (a := a) (by omega) (fun i => by
      have b1 : B i a = A i a := by
        show (if a = a + d + 1 then _ else if a = a + d + 2 then _ else A i a) = A i a
        rw [if_neg (by omega), if_neg (by omega)]
      have b2 : B i (a + d + 1) = A i (a + d + 2) := if_pos rfl
      rw [b1, b2]
      exact h i)
    omega
theorem det_cols_eq {m : Nat} {A : Nat → Nat → Int} {a b : Nat} (hab : a ≠ b) (ha : a < m) (hb : b < m) (h : ∀ i, A i a = A i b) : det m A = 0 := by
  rcases Nat.lt_or_ge a b with q | q
  · exact det_col_eq (b - a - 1) (a := a) (by omega) (fun i => by rw [show a + (b - a - 1) + 1 = b by omega]; exact h i)
  · exact det_col_eq (a - b - 1) (a := b) (by omega) (fun i => by rw [show b + (a - b - 1) + 1 = a by omega]; exact (h i).symm)
/-- by the first column -/
theorem det_first_col : ∀ (m : Nat) (A : Nat → Nat → Int), det (m + 1) A = sI (fun i => sgn i * (A i 0 * det m (fun r k => A (skp i r) (k + 1)))) (m + 1)
  | 0, A => rfl
  | m + 1, A => by
    show sI (fun j => sgn j * (A 0 j * det (m + 1) (fun i k => A (i + 1) (skp j k)))) (m + 2) = _
    refine Eq.trans (sI_shift _ (m + 1)) (Eq.trans ?_ (sI_shift _ (m + 1)).symm)
    have e0 : det (m + 1) (fun i k => A (i + 1) (skp 0 k)) = det (m + 1) (fun r k => A (skp 0 r) (k + 1)) := det_congr fun i k _ _ => by rw [skp_0, skp_0]
    have e00 : sgn 0 * (A 0 0 * det (m + 1) (fun i k => A (i + 1) (skp 0 k))) = sgn 0 * (A 0 0 * det (m + 1) (fun r k => A (skp 0 r) (k + 1))) := by rw [e0]
    refine (congrArg (fun x => x + _) e00).trans ?_
    refine congrArg (fun x => sgn 0 * (A 0 0 * det (m + 1) (fun r k => A (skp 0 r) (k + 1))) + x) ?_
    have e1 : sI (fun j => sgn (j + 1) * (A 0 (j + 1) * det (m + 1) (fun i k => A (i + 1) (skp (j + 1) k)))) (m + 1) = sI (fun j => sI (fun i => - (sgn j * sgn i * (A 0 (j + 1) * A (i + 1) 0 * det m (fun r k => A (skp i r + 1) (skp j k + 1))))) (m + 1)) (m + 1) := sI_congr fun j _ => by
      rw [det_first_col m (fun i k => A (i + 1) (skp (j + 1) k)), ← sI_mul, ← sI_mul]
      refine sI_congr fun i _ => ?_
      simp only [skp_s0, skp_ss, sgn_s]
      grind
    have e2 : sI (fun i => sgn (i + 1) * (A (i + 1) 0 * det (m + 1) (fun r k => A (skp (i + 1) r) (k + 1)))) (m + 1) = sI (fun i => sI (fun j => - (sgn j * sgn i * (A 0 (j + 1) * A (i + 1) 0 * det m (fun r k => A (skp i r + 1) (skp j k + 1))))) (m + 1)) (m + 1) := sI_congr fun i _ => by
      show sgn (i + 1) * (A (i + 1) 0 * sI (fun j => sgn j * (A (skp (i + 1) 0) (j + 1) * det m (fun r k => A (skp (i + 1) (r + 1)) (skp j k + 1)))) (m + 1)) = _
      rw [← sI_mul, ← sI_mul]
      refine sI_congr fun j _ => ?_
      simp only [skp_s0, skp_ss, sgn_s]
      grind
    exact e1.trans ((sI_swap _ (m + 1) (m + 1)).trans e2.symm)
theorem det_tr : ∀ (m : Nat) (A : Nat → Nat → Int), det m (fun i j => A j i) = det m A
  | 0, _ => rfl
  | m + 1, A => by
    rw [det_first_col m A]
    show sI (fun j => sgn j * (A j 0 * det m (fun i k => A (skp j k) (i + 1)))) (m + 1) = _
    exact sI_congr fun j _ => by rw [det_tr m (fun r k => A (skp j r) (k + 1))]
theorem det_row_lin {m : Nat} {A B C : Nat → Nat → Int} (c : Nat) (x y : Int) (hc : c < m) (h1 : ∀ j, C c j = x * A c j + y * B c j) (h2 : ∀ i j, i ≠ c → A i j = C i j) (h3 : ∀ i j, i ≠ c → B i j = C i j) : det m C = x * det m A + y * det m B := by
  rw [← det_tr m A, ← det_tr m B, ← det_tr m C]
  exact det_col_lin c x y hc h1 (fun i j hj => h2 j i hj) (fun i j hj => h3 j i hj)
theorem det_row_swap {m : Nat} {A B : Nat → Nat → Int} (c : Nat) (hc : c + 1 < m) (h1 : ∀ j, B c j = A (c + 1) j) (h2 : ∀ j, B (c + 1) j = A c j) (h3 : ∀ i j, i ≠ c → i ≠ c + 1 → B i j = A i j) : det m B = - det m A := by
  rw [← det_tr m A, ← det_tr m B]
  exact det_col_swap c hc h1 h2 (fun i j a b => h3 j i a b)
theorem det_rows_eq {m : Nat} {A : Nat → Nat → Int} {a b : Nat} (hab : a ≠ b) (ha : a < m) (hb : b < m) (h : ∀ j, A a j = A b j) : det m A = 0 := by
  rw [← det_tr m A]
  exact det_cols_eq hab ha hb h
/-- a multiple of one row added to another -/
theorem det_row_add {m : Nat} {A B : Nat → Nat → Int} {a b : Nat} (hab : a ≠ b) (ha : a < m) (hb : b < m) (t : Int) (h1 : ∀ j, B a j = A a j + t * A b j) (h2 : ∀ i j, i ≠ a → B i j = A i j) : det m B = det m A := by
  have e := det_row_lin (m := m) (A := A) (B := fun i j => if i = a then A b j else A i j) (C := B) a 1 t ha (fun j => by simp [h1]) (fun i j hi => (h2 i j hi).symm) (fun i j hi => by simp only [if_neg hi]; exact (h2 i j hi).symm)
  have e2 : det m (fun i j => if i = a then A b j else A i j) = 0 := det_rows_eq hab ha hb fun j => by simp [Ne.symm hab]
  rw [e, e2]; omega
theorem det_col_add {m : Nat} {A B : Nat → Nat → Int} {a b : Nat} (hab : a ≠ b) (ha : a < m) (hb : b < m) (t : Int) (h1 : ∀ i, B i a = A i a + t * A i b) (h2 : ∀ i j, j ≠ a → B i j = A i j) : det m B = det m A := by
  rw [← det_tr m A, ← det_tr m B]
  exact det_row_add hab ha hb t h1 (fun i j hi => h2 j i hi)
/-- a row with a 1 in the middle alone -/
theorem det_delta {m : Nat} : ∀ (i : Nat) {A : Nat → Nat → Int}, i < m + 1 → (∀ j, A i j = if j = i then 1 else 0) → det (m + 1) A = det m (fun r k => A (skp i r) (skp i k))
  | 0, A, _, h => by
    show sI _ (m + 1) = _
    rw [sI_shift, sI_0 (fun j _ => by rw [h (j + 1), if_neg (by omega)]; simp), h 0]
    simp only [if_pos]
    show sgn 0 * (1 * det m (fun i k => A (i + 1) (skp 0 k))) + 0 = _
    rw [show sgn 0 = 1 from rfl, Int.one_mul, Int.one_mul, Int.add_zero]
    exact det_congr fun r k _ _ => by rw [skp_0, skp_0]
  | i + 1, A, hi, h => by
    let sw : Nat → Nat := fun r => if r = i then i + 1 else if r = i + 1 then i else r
    have e1 := det_row_swap (m := m + 1) (A := A) (B := fun r k => A (sw r) k) i hi (fun j => by simp [sw]) (fun j => by simp [sw]) (fun r j h1 h2 => by simp [sw, h1, h2])
    have e2 := det_col_swap (m := m + 1) (A := fun r k => A (sw r) k) (B := fun r k => A (sw r) (sw k)) i hi (fun j => by simp [sw]) (fun j => by simp [sw]) (fun r j h1 h2 => by simp [sw, h1, h2])
    have e3 := det_delta (m := m) i (A := fun r k => A (sw r) (sw k)) (by omega) (fun j => by
      simp only [sw, if_pos, h]
      by_cases hj : j = i
      · simp [hj]
      · by_cases hj2 : j = i + 1
        · simp [hj2]
        · simp [hj, hj2])
    rw [show det (m + 1) A = det (m + 1) (fun r k => A (sw r) (sw k)) by omega, e3]
    exact det_congr fun r k hr hk => by
      congr 1
      · simp only [sw]; unfold skp; repeat' (first | omega | split)
      · simp only [sw]; unfold skp; repeat' (first | omega | split)
theorem sI_cut {n : Nat} {f : Nat → Int} : ∀ d, (∀ j, n ≤ j → j < n + d → f j = 0) → sI f (n + d) = sI f n
  | 0, _ => rfl
  | d + 1, h => by
    show sI f (n + d) + f (n + d) = _
    rw [sI_cut d (fun j h1 h2 => h j h1 (by omega)), h (n + d) (by omega) (by omega)]; omega
/-- zeros below the first block -/
theorem det_block : ∀ (k r : Nat) {A : Nat → Nat → Int}, (∀ i j, k ≤ i → i < k + r → j < k → A i j = 0) → det (k + r) A = det k A * det r (fun i j => A (k + i) (k + j))
  | 0, r, A, _ => by
    show det (0 + r) A = 1 * _
    rw [Int.one_mul, Nat.zero_add]
    exact det_congr fun i j _ _ => by rw [Nat.zero_add, Nat.zero_add]
  | k + 1, r, A, h => by
    rw [show k + 1 + r = (k + r) + 1 by omega, det_first_col (k + r) A, det_first_col k A]
    rw [show (k + r) + 1 = (k + 1) + r by omega, sI_cut r (fun i h1 h2 => by rw [h i 0 h1 h2 (by omega)]; simp), Int.mul_comm (sI _ _), ← sI_mul]
    refine sI_congr fun i hi => ?_
    have e := det_block k r (A := fun a b => A (skp i a) (b + 1)) (fun a b h1 h2 h3 => by
      show A (skp i a) (b + 1) = 0
      rw [show skp i a = a + 1 by unfold skp; split <;> omega]
      exact h _ _ (by omega) (by omega) (by omega))
    rw [e]
    have e2 : det r (fun a b => A (skp i (k + a)) (k + b + 1)) = det r (fun a b => A (k + 1 + a) (k + 1 + b)) := det_congr fun a b _ _ => by
      rw [show skp i (k + a) = k + 1 + a by unfold skp; split <;> omega, show k + b + 1 = k + 1 + b by omega]
    rw [e2]
    grind
