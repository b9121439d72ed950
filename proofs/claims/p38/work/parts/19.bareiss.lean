/-! BAREISS: each number on the way is a minor -/
/-- the index t comes first -/
def mvf (t r : Nat) : Nat := if r = 0 then t else if r ≤ t then r - 1 else r
theorem det_mvf {m : Nat} (A : Nat → Nat → Int) : ∀ t, t < m → det m (fun r c => A (mvf t r) (mvf t c)) = det m A
  | 0, _ => det_congr fun r c _ _ => by
    congr 1
    · unfold mvf; split <;> (try split) <;> omega
    · unfold mvf; split <;> (try split) <;> omega
  | t + 1, ht => by
    let sw : Nat → Nat := fun r => if r = t then t + 1 else if r = t + 1 then t else r
    have e1 := det_row_swap (m := m) (A := A) (B := fun r k => A (sw r) k) t ht (fun j => by simp [sw]) (fun j => by simp [sw]) (fun r j h1 h2 => by simp [sw, h1, h2])
    have e2 := det_col_swap (m := m) (A := fun r k => A (sw r) k) (B := fun r k => A (sw r) (sw k)) t ht (fun j => by simp [sw]) (fun j => by simp [sw]) (fun r j h1 h2 => by simp [sw, h1, h2])
    have e3 := det_mvf (m := m) (fun r k => A (sw r) (sw k)) t (by omega)
    have e4 : det m (fun r c => A (mvf (t + 1) r) (mvf (t + 1) c)) = det m (fun r c => A (sw (mvf t r)) (sw (mvf t c))) := det_congr fun r c _ _ => by
      congr 1
      · simp only [sw]; unfold mvf; repeat' (first | omega | split)
      · simp only [sw]; unfold mvf; repeat' (first | omega | split)
    rw [e4]
    have e5 : det m (fun r c => A (sw (mvf t r)) (sw (mvf t c))) = det m (fun r k => A (sw r) (sw k)) := e3
    omega
/-- the first k rows and columns, and row i and column j behind them -/
def bm (k : Nat) (A : Nat → Nat → Int) (i j : Nat) : Int := det (k + 1) (fun r c => A (if r < k then r else i) (if c < k then c else j))
/-- what the rows ahead bring -/
def gco (k : Nat) (A : Nat → Nat → Int) (i l : Nat) : Int := sgn (l + 1) * det k (fun a b => A (if skp (l + 1) a = 0 then i else skp (l + 1) a - 1) b)
theorem bm_eq (k : Nat) (A : Nat → Nat → Int) (i j : Nat) : bm k A i j = det k A * A i j + sI (fun l => gco k A i l * A l j) k := by
  unfold bm
  rw [← det_mvf _ k (by omega), det_first_col k, sI_shift]
  congr 1
  · have h1 : (if mvf k 0 < k then mvf k 0 else i) = i := by unfold mvf; simp
    have h2 : (if mvf k 0 < k then mvf k 0 else j) = j := by unfold mvf; simp
    show sgn 0 * (A (if mvf k 0 < k then mvf k 0 else i) (if mvf k 0 < k then mvf k 0 else j) * _) = _
    rw [h1, h2, show sgn 0 = 1 from rfl, Int.one_mul, Int.mul_comm]
    congr 1
    refine det_congr fun r c hr hc => ?_
    rw [skp_0]
    have h3 : ∀ x, x < k → mvf k (x + 1) = x := fun x hx => by unfold mvf; rw [if_neg (by omega), if_pos (by omega)]; omega
    rw [h3 r hr, h3 c hc, if_pos hr, if_pos hc]
  · refine sI_congr fun l hl => ?_
    have h3 : ∀ x, x < k → mvf k (x + 1) = x := fun x hx => by unfold mvf; rw [if_neg (by omega), if_pos (by omega)]; omega
    show sgn (l + 1) * (A (if mvf k (l + 1) < k then mvf k (l + 1) else i) (if mvf k 0 < k then mvf k 0 else j) * det k (fun r c => A (if mvf k (skp (l + 1) r) < k then mvf k (skp (l + 1) r) else i) (if mvf k (c + 1) < k then mvf k (c + 1) else j))) = _
    have h2 : (if mvf k 0 < k then mvf k 0 else j) = j := by unfold mvf; simp
    rw [h3 l hl, if_pos hl, h2]
    unfold gco
    have h4 : det k (fun r c => A (if mvf k (skp (l + 1) r) < k then mvf k (skp (l + 1) r) else i) (if mvf k (c + 1) < k then mvf k (c + 1) else j)) = det k (fun a b => A (if skp (l + 1) a = 0 then i else skp (l + 1) a - 1) b) := det_congr fun r c hr hc => by
      rw [h3 c hc, if_pos hc]
      congr 1
      by_cases h5 : skp (l + 1) r = 0
      · rw [h5, if_pos rfl]; unfold mvf; simp
      · obtain ⟨x, hx⟩ : ∃ x, skp (l + 1) r = x + 1 := ⟨skp (l + 1) r - 1, by omega⟩
        have hxk : x < k := by revert hx; unfold skp; split <;> omega
        rw [hx, h3 x hxk, if_pos hxk, if_neg (by omega), Nat.add_sub_cancel]
    rw [h4]
    grind
theorem bm_low {k : Nat} {A : Nat → Nat → Int} {i j : Nat} (hj : j < k) : bm k A i j = 0 := by
  unfold bm
  refine det_cols_eq (a := j) (b := k) (by omega) (by omega) (by omega) fun r => ?_
  simp only [hj, if_true, Nat.lt_irrefl, if_false]
theorem bm_self (k : Nat) (A : Nat → Nat → Int) : bm k A k k = det (k + 1) A := by
  unfold bm
  refine det_congr fun r c hr hc => ?_
  congr 1
  · split <;> omega
  · split <;> omega
/-- multiples of the rows ahead added to a row -/
theorem det_row_adds {m : Nat} {A B : Nat → Nat → Int} {a : Nat} (ha : a < m) (g : Nat → Int) : ∀ k, k ≤ a → (∀ j, B a j = A a j + sI (fun l => g l * A l j) k) → (∀ i j, i ≠ a → B i j = A i j) → det m B = det m A
  | 0, _, h1, h2 => det_congr fun i j _ _ => by
    by_cases h : i = a
    · rw [h, h1]; show A a j + 0 = _; omega
    · exact h2 i j h
  | k + 1, hk, h1, h2 => by
    have e1 := det_row_adds (m := m) (A := A) (B := fun i j => if i = a then A a j + sI (fun l => g l * A l j) k else A i j) (a := a) ha g k (by omega) (fun j => if_pos rfl) (fun i j hi => if_neg hi)
    have e2 := det_row_add (m := m) (A := fun i j => if i = a then A a j + sI (fun l => g l * A l j) k else A i j) (B := B) (a := a) (b := k) (by omega) ha (by omega) (g k) (fun j => by
      rw [h1, if_pos rfl, if_neg (by omega)]
      show A a j + (sI (fun l => g l * A l j) k + g k * A k j) = _
      omega) (fun i j hi => by rw [h2 i j hi, if_neg hi])
    rw [e2, e1]
theorem det_row_scale {m : Nat} {A B : Nat → Nat → Int} {a : Nat} (ha : a < m) (p : Int) (h1 : ∀ j, B a j = p * A a j) (h2 : ∀ i j, i ≠ a → B i j = A i j) : det m B = p * det m A := by
  have e := det_row_lin (m := m) (A := A) (B := A) (C := B) a p 0 ha (fun j => by rw [h1]; omega) (fun i j hi => (h2 i j hi).symm) (fun i j hi => (h2 i j hi).symm)
  omega
/-- a row replaced by its minors -/
theorem det_row_bm {m : Nat} {A B : Nat → Nat → Int} {k a : Nat} (hk : k ≤ a) (ha : a < m) (h1 : ∀ j, B a j = bm k A a j) (h2 : ∀ i j, i ≠ a → B i j = A i j) : det m B = det k A * det m A := by
  have e1 := det_row_scale (m := m) (A := A) (B := fun i j => if i = a then det k A * A a j else A i j) ha (det k A) (fun j => if_pos rfl) (fun i j hi => if_neg hi)
  have e2 := det_row_adds (m := m) (A := fun i j => if i = a then det k A * A a j else A i j) (B := B) (a := a) ha (gco k A a) k hk (fun j => by
    rw [h1, bm_eq, if_pos rfl]
    congr 1
    exact sI_congr fun l hl => by rw [if_neg (by omega)]) (fun i j hi => by rw [h2 i j hi, if_neg hi])
  rw [e2, e1]
/-- one step: exact -/
theorem bareiss_step {k : Nat} {A : Nat → Nat → Int} (hp : det k A ≠ 0) (i j : Nat) : det k A * bm (k + 1) A i j = bm k A k k * bm k A i j - bm k A i k * bm k A k j := by
  -- the matrix of k + 2 rows, row k + 1 being i, column k + 1 being j
  let M : Nat → Nat → Int := fun r c => A (if r < k + 1 then r else i) (if c < k + 1 then c else j)
  have hM : bm (k + 1) A i j = det (k + 2) M := rfl
  have hd : det k M = det k A := det_congr fun r c hr hc => by
    show A (if r < k + 1 then r else i) (if c < k + 1 then c else j) = _
    rw [if_pos (by omega), if_pos (by omega)]
  have hb : ∀ r c, k ≤ r → k ≤ c → bm k M r c = bm k A (if r < k + 1 then r else i) (if c < k + 1 then c else j) := fun r c hr hc => by
    unfold bm
    refine det_congr fun x y hx hy => ?_
    show A (if (if x < k then x else r) < k + 1 then (if x < k then x else r) else i) (if (if y < k then y else c) < k + 1 then (if y < k then y else c) else j) = _
    congr 1
    · by_cases h : x < k
      · simp only [h, if_true]; rw [if_pos (by omega)]
      · simp only [h, if_false]
    · by_cases h : y < k
      · simp only [h, if_true]; rw [if_pos (by omega)]
      · simp only [h, if_false]
  have e1 := det_row_bm (m := k + 2) (A := M) (B := fun r c => if r = k then bm k M k c else M r c) (k := k) (a := k) (Nat.le_refl _) (by omega) (fun c => if_pos rfl) (fun r c hr => if_neg hr)
  have hN : ∀ r c, k ≤ r → bm k (fun r c => if r = k then bm k M k c else M r c) (k + 1) c = bm k M (k + 1) c := fun r c _ => by
    unfold bm
    refine det_congr fun x y hx hy => ?_
    have : (if x < k then x else k + 1) ≠ k := by split <;> omega
    simp only [this, if_false]
  have hdN : det k (fun r c => if r = k then bm k M k c else M r c) = det k M := det_congr fun r c hr hc => if_neg (by omega)
  have e2 := det_row_bm (m := k + 2) (A := fun r c => if r = k then bm k M k c else M r c) (B := fun r c => if r = k + 1 then bm k M (k + 1) c else if r = k then bm k M k c else M r c) (k := k) (a := k + 1) (by omega) (by omega) (fun c => by rw [if_pos rfl, hN k c (Nat.le_refl _)]) (fun r c hr => if_neg hr)
  have e3 := det_block k 2 (A := fun r c => if r = k + 1 then bm k M (k + 1) c else if r = k then bm k M k c else M r c) (fun r c h1 h2 h3 => by
    by_cases h : r = k + 1
    · simp only [h, if_true]; exact bm_low h3
    · rw [if_neg h, if_pos (by omega)]; exact bm_low h3)
  have hd3 : det k (fun r c => if r = k + 1 then bm k M (k + 1) c else if r = k then bm k M k c else M r c) = det k M := det_congr fun r c hr hc => by rw [if_neg (by omega), if_neg (by omega)]
  have e4 : det 2 (fun a b => (fun r c => if r = k + 1 then bm k M (k + 1) c else if r = k then bm k M k c else M r c) (k + a) (k + b)) = bm k A k k * bm k A i j - bm k A i k * bm k A k j := by
    have b1 := hb k k (Nat.le_refl _) (Nat.le_refl _)
    have b2 := hb k (k + 1) (Nat.le_refl _) (by omega)
    have b3 := hb (k + 1) k (by omega) (Nat.le_refl _)
    have b4 := hb (k + 1) (k + 1) (by omega) (by omega)
    simp only [Nat.lt_succ_self, if_true, Nat.lt_irrefl, if_false] at b1 b2 b3 b4
    rw [← b1, ← b2, ← b3, ← b4]
    simp [det, sI, sgn, skp]
    grind
  rw [hdN] at e2
  rw [hd3, e4] at e3
  rw [hd] at e1 e2 e3
  have h9 : det k A * (det k A * det (k + 2) M) = det k A * (bm k A k k * bm k A i j - bm k A i k * bm k A k j) := by
    rw [← e1, ← e2, ← e3]
  rw [hM]
  exact Int.eq_of_mul_eq_mul_left hp h9
theorem pow_ne {p : Int} (hp : p ≠ 0) : ∀ t : Nat, p ^ t ≠ 0
  | 0 => by rw [Int.pow_zero]; decide
  | t + 1 => by rw [Int.pow_succ]; exact Int.mul_ne_zero (pow_ne hp t) hp
/-- no pivot: the whole is 0 -/
theorem bareiss_none {k : Nat} {A : Nat → Nat → Int} (hp : det k A ≠ 0) : ∀ (r : Nat), 0 < r → (∀ i, k ≤ i → i < k + r → bm k A i k = 0) → det (k + r) A = 0 := by
  intro r hr h
  -- rows k to k + t - 1 replaced
  have key : ∀ t, t ≤ r → det (k + r) (fun i j => if k ≤ i ∧ i < k + t then bm k A i j else A i j) = det k A ^ t * det (k + r) A := by
    intro t
    induction t with
    | zero =>
      intro _
      rw [Int.pow_zero, Int.one_mul]
      exact det_congr fun i j _ _ => if_neg (by omega)
    | succ t ih =>
      intro ht
      have e := det_row_bm (m := k + r) (A := fun i j => if k ≤ i ∧ i < k + t then bm k A i j else A i j) (B := fun i j => if k ≤ i ∧ i < k + (t + 1) then bm k A i j else A i j) (k := k) (a := k + t) (by omega) (by omega) (fun j => by
        rw [if_pos (by omega)]
        exact det_congr fun x y hx hy => (if_neg (by split <;> omega)).symm) (fun i j hi => by
        by_cases h1 : k ≤ i ∧ i < k + t
        · rw [if_pos h1, if_pos (by omega)]
        · rw [if_neg h1, if_neg (by omega)])
      have hd : det k (fun i j => if k ≤ i ∧ i < k + t then bm k A i j else A i j) = det k A := det_congr fun i j hi _ => if_neg (by omega)
      rw [e, hd, ih (by omega), Int.pow_succ]
      grind
  have e1 := key r (Nat.le_refl _)
  have e2 := det_block k r (A := fun i j => if k ≤ i ∧ i < k + r then bm k A i j else A i j) (fun i j h1 h2 h3 => by rw [if_pos ⟨h1, h2⟩]; exact bm_low h3)
  have e3 : det r (fun i j => (fun i j => if k ≤ i ∧ i < k + r then bm k A i j else A i j) (k + i) (k + j)) = 0 := by
    obtain ⟨q, rfl⟩ : ∃ q, r = q + 1 := ⟨r - 1, by omega⟩
    rw [det_first_col q]
    refine sI_0 fun i hi => ?_
    have : (if k ≤ k + i ∧ k + i < k + (q + 1) then bm k A (k + i) (k + 0) else A (k + i) (k + 0)) = 0 := by
      rw [if_pos (by omega)]; exact h (k + i) (by omega) (by omega)
    simp only [this]
    simp
  rw [e3, Int.mul_zero, e1] at e2
  rcases Int.mul_eq_zero.mp e2 with h1 | h1
  · exact absurd h1 (pow_ne hp r)
  · exact h1
