/-! SUMS of whole numbers over 0 .. n-1 -/
def sI (f : Nat → Int) : Nat → Int
  | 0 => 0
  | n + 1 => sI f n + f n
theorem sI_congr {f g : Nat → Int} : ∀ {n : Nat}, (∀ j, j < n → f j = g j) → sI f n = sI g n
  | 0, _ => rfl
  | n + 1, h => by
    show sI f n + f n = sI g n + g n
    rw [sI_congr fun j hj => h j (by omega), h n (by omega)]
theorem sI_add (f g : Nat → Int) : ∀ n, sI (fun j => f j + g j) n = sI f n + sI g n
  | 0 => rfl
  | n + 1 => by
    show sI (fun j => f j + g j) n + (f n + g n) = sI f n + f n + (sI g n + g n)
    rw [sI_add f g n]; omega
theorem sI_sub (f g : Nat → Int) : ∀ n, sI (fun j => f j - g j) n = sI f n - sI g n
  | 0 => rfl
  | n + 1 => by
    show sI (fun j => f j - g j) n + (f n - g n) = sI f n + f n - (sI g n + g n)
    rw [sI_sub f g n]; omega
theorem sI_mul (a : Int) (f : Nat → Int) : ∀ n, sI (fun j => a * f j) n = a * sI f n
  | 0 => by simp [sI]
  | n + 1 => by
    show sI (fun j => a * f j) n + a * f n = a * (sI f n + f n)
    rw [sI_mul a f n, Int.mul_add]
theorem sI_neg (f : Nat → Int) : ∀ n, sI (fun j => - f j) n = - sI f n
  | 0 => rfl
  | n + 1 => by
    show sI (fun j => - f j) n + - f n = - (sI f n + f n)
    rw [sI_neg f n]; omega
theorem sI_zero : ∀ n, sI (fun _ => 0) n = 0
  | 0 => rfl
  | n + 1 => by show sI (fun _ => 0) n + 0 = 0; rw [sI_zero n]; rfl
theorem sI_0 {f : Nat → Int} {n : Nat} (h : ∀ j, j < n → f j = 0) : sI f n = 0 := (sI_congr h).trans (sI_zero n)
theorem sI_le {f g : Nat → Int} : ∀ {n : Nat}, (∀ j, j < n → f j ≤ g j) → sI f n ≤ sI g n
  | 0, _ => Int.le_refl _
  | n + 1, h => by
    show sI f n + f n ≤ sI g n + g n
    have h1 := sI_le (f := f) (g := g) (n := n) fun j hj => h j (by omega)
    have h2 := h n (by omega)
    omega
theorem sI_nn {f : Nat → Int} {n : Nat} (h : ∀ j, j < n → 0 ≤ f j) : 0 ≤ sI f n := by
  have h1 := sI_le (f := fun _ => 0) (g := f) (n := n) h
  rw [sI_zero] at h1
  exact h1
/-- one of the summands, none being below 0, is at most the sum -/
theorem sI_ge1 {f : Nat → Int} : ∀ {n : Nat} (c : Nat), c < n → (∀ j, j < n → 0 ≤ f j) → f c ≤ sI f n
  | 0, _, h, _ => absurd h (Nat.not_lt_zero _)
  | n + 1, c, hc, h => by
    show f c ≤ sI f n + f n
    by_cases hcn : c = n
    · subst hcn
      have := sI_nn (f := f) (n := c) fun j hj => h j (by omega)
      omega
    · have h1 := sI_ge1 (f := f) (n := n) c (by omega) fun j hj => h j (by omega)
      have h2 := h n (by omega)
      omega
theorem sI_swap (f : Nat → Nat → Int) (m : Nat) : ∀ n, sI (fun i => sI (fun j => f i j) m) n = sI (fun j => sI (fun i => f i j) n) m
  | 0 => (sI_zero m).symm
  | n + 1 => by
    show sI (fun i => sI (fun j => f i j) m) n + sI (fun j => f n j) m = sI (fun j => sI (fun i => f i j) n + f n j) m
    rw [sI_swap f m n, sI_add]
theorem sI_ite (a : Int) (c : Nat) : ∀ n, sI (fun j => if j = c then a else 0) n = if c < n then a else 0
  | 0 => by simp [sI]
  | n + 1 => by
    show sI (fun j => if j = c then a else 0) n + (if n = c then a else 0) = _
    rw [sI_ite a c n]
    by_cases h : n = c
    · subst h
      rw [if_neg (Nat.lt_irrefl _), if_pos rfl, if_pos (Nat.lt_succ_self _)]; omega
    · rw [if_neg h]
      by_cases h2 : c < n
      · rw [if_pos h2, if_pos (by omega)]; omega
      · rw [if_neg h2, if_neg (by omega)]; omega
/-- a sum with one summand changed -/
theorem sI_upd {f g : Nat → Int} (c : Nat) {n : Nat} (hc : c < n) (h : ∀ j, j < n → j ≠ c → g j = f j) : sI g n = sI f n + (g c - f c) := by
  have h1 : sI g n = sI (fun j => f j + (if j = c then g c - f c else 0)) n := sI_congr fun j hj => by
    by_cases hjc : j = c
    · subst hjc; rw [if_pos rfl]; omega
    · rw [if_neg hjc, h j hj hjc]; omega
  rw [h1, sI_add, sI_ite, if_pos hc]
/-- how many of 0 .. n-1 have it -/
def cnt (P : Nat → Bool) : Nat → Nat
  | 0 => 0
  | n + 1 => cnt P n + (if P n then 1 else 0)
theorem cnt_le (P : Nat → Bool) : ∀ n, cnt P n ≤ n
  | 0 => Nat.le_refl _
  | n + 1 => by
    show cnt P n + _ ≤ _
    have := cnt_le P n
    split <;> omega
theorem cnt_mono {P Q : Nat → Bool} : ∀ {n : Nat}, (∀ j, j < n → P j = true → Q j = true) → cnt P n ≤ cnt Q n
  | 0, _ => Nat.le_refl _
  | n + 1, h => by
    show cnt P n + _ ≤ cnt Q n + _
    have h1 := cnt_mono (P := P) (Q := Q) (n := n) fun j hj => h j (by omega)
    have h2 := h n (by omega)
    cases hp : P n
    · simp; omega
    · simp [h2 hp]; omega
theorem cnt_lt {P Q : Nat → Bool} : ∀ {n : Nat} (c : Nat), c < n → P c = false → Q c = true → (∀ j, j < n → P j = true → Q j = true) → cnt P n < cnt Q n
  | 0, _, h, _, _, _ => absurd h (Nat.not_lt_zero _)
  | n + 1, c, hc, h1, h2, h => by
    show cnt P n + _ < cnt Q n + _
    by_cases hcn : c = n
    · subst hcn
      have := cnt_mono (P := P) (Q := Q) (n := c) fun j hj => h j (by omega)
      simp [h1, h2]; omega
    · have h3 := cnt_lt (P := P) (Q := Q) (n := n) c (by omega) h1 h2 fun j hj => h j (by omega)
      have h4 := h n (by omega)
      cases hp : P n
      · simp; omega
      · simp [h4 hp]; omega
theorem cnt_all {P : Nat → Bool} : ∀ {n : Nat}, n ≤ cnt P n → ∀ j, j < n → P j = true
  | 0, _, _, h => absurd h (Nat.not_lt_zero _)
  | n + 1, h, j, hj => by
    have h0 : cnt P (n + 1) = cnt P n + (if P n then 1 else 0) := rfl
    have h1 := cnt_le P n
    rw [h0] at h
    cases hp : P n
    · simp [hp] at h; omega
    · by_cases hjn : j = n
      · subst hjn; exact hp
      · exact cnt_all (P := P) (n := n) (by simp [hp] at h; omega) j (by omega)
