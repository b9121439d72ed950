/-! MINORS: what divides all of k rows; the numbers down the middle -/
def diag (d : Nat → Int) : Nat → Nat → Int := fun i j => if i = j then d i else 0
def radd (A : Nat → Nat → Int) (a b : Nat) (t : Int) : Nat → Nat → Int := fun i j => if i = a then A a j + t * A b j else A i j
def cadd (A : Nat → Nat → Int) (a b : Nat) (t : Int) : Nat → Nat → Int := fun i j => if j = a then A i a + t * A i b else A i j
/-- a property that steps on rows and columns keep -/
def Clo (m : Nat) (P : (Nat → Nat → Int) → Prop) : Prop := (∀ A a b t, a ≠ b → a < m → b < m → P A → P (radd A a b t)) ∧ (∀ A a b t, a ≠ b → a < m → b < m → P A → P (cadd A a b t)) ∧ ∀ A B, (∀ i j, i < m → j < m → A i j = B i j) → P A → P B
/-- the entry at i, j comes to 0, 0 -/
theorem to_corner {m : Nat} (A : Nat → Nat → Int) {i j : Nat} (hi : i < m) (hj : j < m) (hA : A i j ≠ 0) : ∃ B : Nat → Nat → Int, B 0 0 ≠ 0 ∧ (B 0 0).natAbs = (A i j).natAbs ∧ ∀ P, Clo m P → P A → P B := by
  -- first the row
  have h1 : ∃ B : Nat → Nat → Int, B 0 j = A i j ∧ ∀ P, Clo m P → P A → P B := by
    by_cases h0 : i = 0
    · subst h0; exact ⟨A, rfl, fun P _ h => h⟩
    · refine ⟨radd (radd (radd A 0 i 1) i 0 (-1)) 0 i 1, ?_, fun P hP h => hP.1 _ 0 i 1 (Ne.symm h0) (by omega) hi (hP.1 _ i 0 (-1) h0 hi (by omega) (hP.1 _ 0 i 1 (Ne.symm h0) (by omega) hi h))⟩
      unfold radd
      simp [h0, Ne.symm h0]
      omega
  obtain ⟨B, hB, hPB⟩ := h1
  by_cases h0 : j = 0
  · subst h0; exact ⟨B, by rw [hB]; exact hA, by rw [hB], hPB⟩
  · refine ⟨cadd (cadd (cadd B 0 j 1) j 0 (-1)) 0 j 1, ?_⟩
    have h2 : cadd (cadd (cadd B 0 j 1) j 0 (-1)) 0 j 1 0 0 = B 0 j := by
      unfold cadd
      simp [h0, Ne.symm h0]
      omega
    exact ⟨by rw [h2, hB]; exact hA, by rw [h2, hB], fun P hP h => hP.2.1 _ 0 j 1 (Ne.symm h0) (by omega) hj (hP.2.1 _ j 0 (-1) h0 hj (by omega) (hP.2.1 _ 0 j 1 (Ne.symm h0) (by omega) hj (hPB P hP h)))⟩
/-- the first row is cleared -/
theorem clear_row {m : Nat} (A : Nat → Nat → Int) (h : ∀ j, j < m → 0 < j → A 0 0 ∣ A 0 j) : ∃ B : Nat → Nat → Int, B 0 0 = A 0 0 ∧ (∀ j, j < m → 0 < j → B 0 j = 0) ∧ (∀ i, B i 0 = A i 0) ∧ ∀ P, Clo m P → P A → P B := by
  have key : ∀ t, t ≤ m → ∃ B : Nat → Nat → Int, B 0 0 = A 0 0 ∧ (∀ j, j < t → 0 < j → B 0 j = 0) ∧ (∀ j, t ≤ j → B 0 j = A 0 j) ∧ (∀ i, B i 0 = A i 0) ∧ ∀ P, Clo m P → P A → P B := by
    intro t
    induction t with
    | zero => intro _; exact ⟨A, rfl, fun j hj => absurd hj (Nat.not_lt_zero _), fun _ _ => rfl, fun _ => rfl, fun _ _ h => h⟩
    | succ t ih =>
      intro ht
      obtain ⟨B, b1, b2, b3, b4, b5⟩ := ih (by omega)
      by_cases h0 : t = 0
      · subst h0; exact ⟨B, b1, fun j hj h1 => absurd h1 (by omega), fun j hj => b3 j (by omega), b4, b5⟩
      · obtain ⟨q, hq⟩ := h t (by omega) (by omega)
        refine ⟨cadd B t 0 (-q), ?_, fun j hj h1 => ?_, fun j hj => ?_, fun i => ?_, fun P hP hA => hP.2.1 _ t 0 (-q) h0 (by omega) (by omega) (b5 P hP hA)⟩
        · unfold cadd; rw [if_neg (Ne.symm h0)]; exact b1
        · unfold cadd
          by_cases hjt : j = t
          · rw [if_pos hjt, b1, b3 t (Nat.le_refl _), hq]; grind
          · rw [if_neg hjt]; exact b2 j (by omega) h1
        · unfold cadd; rw [if_neg (by omega)]; exact b3 j (by omega)
        · unfold cadd; rw [if_neg (Ne.symm h0)]; exact b4 i
  obtain ⟨B, b1, b2, -, b4, b5⟩ := key m (Nat.le_refl _)
  exact ⟨B, b1, b2, b4, b5⟩
/-- the first column is cleared, behind a first row that is -/
theorem clear_col {m : Nat} (A : Nat → Nat → Int) (h : ∀ i, i < m → 0 < i → A 0 0 ∣ A i 0) (h0 : ∀ j, j < m → 0 < j → A 0 j = 0) : ∃ B : Nat → Nat → Int, B 0 0 = A 0 0 ∧ (∀ j, j < m → 0 < j → B 0 j = 0) ∧ (∀ i, i < m → 0 < i → B i 0 = 0) ∧ ∀ P, Clo m P → P A → P B := by
  have key : ∀ t, t ≤ m → ∃ B : Nat → Nat → Int, (∀ j, B 0 j = A 0 j) ∧ (∀ i, i < t → 0 < i → B i 0 = 0) ∧ (∀ i, t ≤ i → B i 0 = A i 0) ∧ ∀ P, Clo m P → P A → P B := by
    intro t
    induction t with
    | zero => intro _; exact ⟨A, fun _ => rfl, fun j hj => absurd hj (Nat.not_lt_zero _), fun _ _ => rfl, fun _ _ h => h⟩
    | succ t ih =>
      intro ht
      obtain ⟨B, b1, b2, b3, b5⟩ := ih (by omega)
      by_cases ht0 : t = 0
      · subst ht0; exact ⟨B, b1, fun j hj h1 => absurd h1 (by omega), fun j hj => b3 j (by omega), b5⟩
      · obtain ⟨q, hq⟩ := h t (by omega) (by omega)
        refine ⟨radd B t 0 (-q), fun j => ?_, fun i hi h1 => ?_, fun i hi => ?_, fun P hP hA => hP.1 _ t 0 (-q) ht0 (by omega) (by omega) (b5 P hP hA)⟩
        · unfold radd; rw [if_neg (Ne.symm ht0)]; exact b1 j
        · unfold radd
          by_cases hit : i = t
          · rw [if_pos hit, b1, b3 t (Nat.le_refl _), hq]; grind
          · rw [if_neg hit]; exact b2 i (by omega) h1
        · unfold radd; rw [if_neg (by omega)]; exact b3 i (by omega)
  obtain ⟨B, b1, b2, -, b5⟩ := key m (Nat.le_refl _)
  exact ⟨B, b1 0, fun j hj h1 => by rw [b1]; exact h0 j hj h1, b2, b5⟩
theorem rem_small {a b : Int} (ha : a ≠ 0) (h : ¬ a ∣ b) : b + -(b / a) * a ≠ 0 ∧ (b + -(b / a) * a).natAbs < a.natAbs := by
  have h1 : b + -(b / a) * a = b % a := by
    have := Int.emod_def b a
    rw [this, Int.neg_mul, Int.mul_comm]; omega
  rw [h1]
  have h2 := Int.emod_nonneg b ha
  have h3 : b % a < (a.natAbs : Int) := by
    rcases Int.lt_trichotomy a 0 with q | q | q
    · have h9 := Int.emod_lt_of_pos b (show 0 < -a by omega)
      rw [Int.emod_neg] at h9
      omega
    · exact absurd q ha
    · have h9 := Int.emod_lt_of_pos b q
      omega
  refine ⟨fun q => h (Int.dvd_of_emod_eq_zero q), ?_⟩
  omega
/-- numbers down the middle, each dividing the next one -/
theorem smith : ∀ (m : Nat) (A : Nat → Nat → Int), ∃ d : Nat → Int, (∀ i, i + 1 < m → d i ∣ d (i + 1)) ∧ (∀ x, (∀ i j, i < m → j < m → x ∣ A i j) → 0 < m → x ∣ d 0) ∧ ∀ P, Clo m P → P A → P (diag d)
  | 0, A => ⟨fun _ => 0, fun i h => absurd h (by omega), fun x _ h => absurd h (by omega), fun P hP h => hP.2.2 A _ (fun i j hi => absurd hi (Nat.not_lt_zero _)) h⟩
  | m + 1, A => by
    have hdvP : ∀ x : Int, Clo (m + 1) (fun B => ∀ i j, i < m + 1 → j < m + 1 → x ∣ B i j) := fun x => by
      refine ⟨fun B a b t _ ha hb h i j hi hj => ?_, fun B a b t _ ha hb h i j hi hj => ?_, fun B C h1 h i j hi hj => by rw [← h1 i j hi hj]; exact h i j hi hj⟩
      · unfold radd
        split
        · exact Int.dvd_add (h a j ha hj) (Int.dvd_mul_of_dvd_right (h b j hb hj))
        · exact h i j hi hj
      · unfold cadd
        split
        · exact Int.dvd_add (h i a hi ha) (Int.dvd_mul_of_dvd_right (h i b hi hb))
        · exact h i j hi hj
    have main : ∀ (N : Nat) (A : Nat → Nat → Int), (∃ i j, i < m + 1 ∧ j < m + 1 ∧ A i j ≠ 0 ∧ (A i j).natAbs ≤ N) → ∃ d : Nat → Int, (∀ i, i + 1 < m + 1 → d i ∣ d (i + 1)) ∧ (∀ x, (∀ i j, i < m + 1 → j < m + 1 → x ∣ A i j) → 0 < m + 1 → x ∣ d 0) ∧ ∀ P, Clo (m + 1) P → P A → P (diag d) := by
      intro N
      induction N with
      | zero => rintro A ⟨i, j, -, -, h1, h2⟩; omega
      | succ N ih =>
        rintro A ⟨i, j, hi, hj, hne, hle⟩
        have step : ∀ (B : Nat → Nat → Int), (∀ P, Clo (m + 1) P → P A → P B) → (∃ i j, i < m + 1 ∧ j < m + 1 ∧ B i j ≠ 0 ∧ (B i j).natAbs ≤ N) → ∃ d : Nat → Int, (∀ i, i + 1 < m + 1 → d i ∣ d (i + 1)) ∧ (∀ x, (∀ i j, i < m + 1 → j < m + 1 → x ∣ A i j) → 0 < m + 1 → x ∣ d 0) ∧ ∀ P, Clo (m + 1) P → P A → P (diag d) := fun B hB hex => by
          obtain ⟨d, d1, d2, d3⟩ := ih B hex
          exact ⟨d, d1, fun x hx h0 => d2 x (hB _ (hdvP x) hx) h0, fun P hP h => d3 P hP (hB P hP h)⟩
        obtain ⟨B, b1, b2, b3⟩ := to_corner A hi hj hne
        -- a number of the first row that isn't divided
        by_cases hr : ∀ j, j < m + 1 → 0 < j → B 0 0 ∣ B 0 j
        case neg =>
          have hex : ∃ j, j < m + 1 ∧ 0 < j ∧ ¬ B 0 0 ∣ B 0 j := by
            refine Classical.byContradiction fun hno => hr fun j h1 h2 => Classical.byContradiction fun h3 => hno ⟨j, h1, h2, h3⟩
          obtain ⟨y, y1, y2, y3⟩ := hex
          have h4 := rem_small b1 y3
          refine step (cadd B y 0 (-(B 0 y / B 0 0))) (fun P hP h => hP.2.1 _ y 0 _ (by omega) y1 (by omega) (b3 P hP h)) ⟨0, y, by omega, y1, ?_, ?_⟩
          · unfold cadd; rw [if_pos rfl]; exact h4.1
          · unfold cadd; rw [if_pos rfl]; omega
        case pos =>
        by_cases hc : ∀ i, i < m + 1 → 0 < i → B 0 0 ∣ B i 0
        case neg =>
          have hex : ∃ i, i < m + 1 ∧ 0 < i ∧ ¬ B 0 0 ∣ B i 0 := by
            refine Classical.byContradiction fun hno => hc fun j h1 h2 => Classical.byContradiction fun h3 => hno ⟨j, h1, h2, h3⟩
          obtain ⟨y, y1, y2, y3⟩ := hex
          have h4 := rem_small b1 y3
          refine step (radd B y 0 (-(B y 0 / B 0 0))) (fun P hP h => hP.1 _ y 0 _ (by omega) y1 (by omega) (b3 P hP h)) ⟨y, 0, y1, by omega, ?_, ?_⟩
          · unfold radd; rw [if_pos rfl]; exact h4.1
          · unfold radd; rw [if_pos rfl]; omega
        case pos =>
        obtain ⟨B1, c1, c2, c3, c4⟩ := clear_row B hr
        obtain ⟨B2, e1, e2, e3, e4⟩ := clear_col (m := m + 1) B1 (fun i h1 h2 => by rw [c1, c3]; exact hc i h1 h2) c2
        have hAB2 : ∀ P, Clo (m + 1) P → P A → P B2 := fun P hP h => e4 P hP (c4 P hP (b3 P hP h))
        by_cases hall : ∀ i j, i < m + 1 → j < m + 1 → B2 0 0 ∣ B2 i j
        case neg =>
          have hex : ∃ i j, i < m + 1 ∧ j < m + 1 ∧ ¬ B2 0 0 ∣ B2 i j := by
            refine Classical.byContradiction fun hno => hall fun i j h1 h2 => Classical.byContradiction fun h3 => hno ⟨i, j, h1, h2, h3⟩
          obtain ⟨x, y, x1, y1, h3⟩ := hex
          have hx0 : 0 < x := by
            rcases Nat.eq_zero_or_pos x with q | q
            · subst q
              rcases Nat.eq_zero_or_pos y with q2 | q2
              · subst q2; exact absurd (Int.dvd_refl _) h3
              · rw [e2 y y1 q2] at h3; exact absurd (Int.dvd_zero _) h3
            · exact q
          have hy0 : 0 < y := by
            rcases Nat.eq_zero_or_pos y with q | q
            · subst q; rw [e3 x x1 hx0] at h3; exact absurd (Int.dvd_zero _) h3
            · exact q
          have hb0 : B2 0 0 ≠ 0 := by rw [e1, c1]; exact b1
          have h4 := rem_small hb0 h3
          have v1 : radd B2 0 x 1 0 y = B2 x y := by unfold radd; rw [if_pos rfl, e2 y y1 hy0]; omega
          have v2 : radd B2 0 x 1 0 0 = B2 0 0 := by unfold radd; rw [if_pos rfl, e3 x x1 hx0]; omega
          refine step (cadd (radd B2 0 x 1) y 0 (-(B2 x y / B2 0 0))) (fun P hP h => hP.2.1 _ y 0 _ (by omega) y1 (by omega) (hP.1 _ 0 x 1 (by omega) (by omega) x1 (hAB2 P hP h))) ⟨0, y, by omega, y1, ?_, ?_⟩
          · unfold cadd; rw [if_pos rfl, v1, v2]; exact h4.1
          · unfold cadd
            rw [if_pos rfl, v1, v2]
            have h5 : (B2 0 0).natAbs = (A i j).natAbs := by rw [e1, c1, b2]
            omega
        case pos =>
        obtain ⟨d, d1, d2, d3⟩ := smith m (fun i j => B2 (i + 1) (j + 1))
        let dd : Nat → Int := fun i => if i = 0 then B2 0 0 else d (i - 1)
        refine ⟨dd, fun i hi => ?_, fun x hx _ => ?_, fun P hP h => ?_⟩
        · by_cases hi0 : i = 0
          · subst hi0
            show B2 0 0 ∣ (if 0 + 1 = 0 then B2 0 0 else d (0 + 1 - 1))
            rw [if_neg (by omega)]
            exact d2 (B2 0 0) (fun a b ha hb => hall (a + 1) (b + 1) (by omega) (by omega)) (by omega)
          · show (if i = 0 then B2 0 0 else d (i - 1)) ∣ (if i + 1 = 0 then B2 0 0 else d (i + 1 - 1))
            rw [if_neg hi0, if_neg (by omega)]
            have := d1 (i - 1) (by omega)
            rwa [show i - 1 + 1 = i by omega] at this
        · have := hAB2 _ (hdvP x) hx 0 0 (by omega) (by omega)
          exact this
        · -- the steps on the rest, beside the corner
          let bl : (Nat → Nat → Int) → Nat → Nat → Int := fun X i j => if i = 0 ∨ j = 0 then (if i = j then B2 0 0 else 0) else X (i - 1) (j - 1)
          have hb : Clo m (fun X => P (bl X)) := by
            refine ⟨fun X a b t hab ha hb hX => ?_, fun X a b t hab ha hb hX => ?_, fun X Y hXY hX => ?_⟩
            · refine hP.2.2 _ _ (fun i j hi hj => ?_) (hP.1 _ (a + 1) (b + 1) t (by omega) (by omega) (by omega) hX)
              simp only [bl, radd]
              by_cases hi0 : i = 0
              · subst hi0; rw [if_neg (by omega)]; simp
              · by_cases hj0 : j = 0
                · subst hj0; simp [hi0]
                · by_cases hia : i = a + 1
                  · subst hia; simp [hj0]
                  · have : i - 1 ≠ a := by omega
                    simp [hi0, hj0, hia, this]
            · refine hP.2.2 _ _ (fun i j hi hj => ?_) (hP.2.1 _ (a + 1) (b + 1) t (by omega) (by omega) (by omega) hX)
              simp only [bl, cadd]
              by_cases hj0 : j = 0
              · subst hj0; rw [if_neg (by omega)]; simp
              · by_cases hi0 : i = 0
                · subst hi0
                  by_cases hja : j = a + 1
                  · simp [hja]
                  · simp [hja, hj0]
                · by_cases hja : j = a + 1
                  · subst hja; simp [hi0]
                  · have : j - 1 ≠ a := by omega
                    simp [hi0, hj0, hja, this]
            · refine hP.2.2 _ _ (fun i j hi hj => ?_) hX
              simp only [bl]
              by_cases h0 : i = 0 ∨ j = 0
              · rw [if_pos h0, if_pos h0]
              · rw [if_neg h0, if_neg h0]; exact hXY _ _ (by omega) (by omega)
          have h1 : P (bl (fun i j => B2 (i + 1) (j + 1))) := hP.2.2 B2 _ (fun i j hi hj => by
            simp only [bl]
            by_cases hi0 : i = 0
            · subst hi0
              by_cases hj0 : j = 0
              · subst hj0; simp
              · rw [if_pos (Or.inl rfl), if_neg (Ne.symm hj0)]; exact e2 j hj (by omega)
            · by_cases hj0 : j = 0
              · subst hj0; rw [if_pos (Or.inr rfl), if_neg hi0]; exact e3 i hi (by omega)
              · rw [if_neg (by omega), show i - 1 + 1 = i by omega, show j - 1 + 1 = j by omega]) (hAB2 P hP h)
          have h2 := d3 _ hb h1
          refine hP.2.2 _ _ (fun i j hi hj => ?_) h2
          simp only [bl, diag, dd]
          by_cases hi0 : i = 0
          · subst hi0
            by_cases hj0 : j = 0
            · subst hj0; simp
            · simp [Ne.symm hj0]
          · by_cases hj0 : j = 0
            · subst hj0; simp [hi0]
            · have : (i - 1 = j - 1) ↔ i = j := by omega
              simp [hi0, hj0, this]
    by_cases hz : ∃ i j, i < m + 1 ∧ j < m + 1 ∧ A i j ≠ 0
    · obtain ⟨i, j, h1, h2, h3⟩ := hz
      exact main (A i j).natAbs A ⟨i, j, h1, h2, h3, Nat.le_refl _⟩
    · refine ⟨fun _ => 0, fun i _ => Int.dvd_refl _, fun x _ _ => Int.dvd_zero _, fun P hP h => hP.2.2 A _ (fun i j hi hj => ?_) h⟩
      have : A i j = 0 := Classical.byContradiction fun q => hz ⟨i, j, hi, hj, q⟩
      rw [this]; unfold diag; split <;> rfl
