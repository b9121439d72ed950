/-! what divides all minors of k rows: the product of the first k numbers down the middle -/
def Dv (m k : Nat) (A : Nat → Nat → Int) (x : Int) : Prop := ∀ f g : Nat → Nat, (∀ r, r < k → f r < m) → (∀ r, r < k → g r < m) → x ∣ det k (fun r c => A (f r) (g c))
theorem Dv_tr {m k : Nat} {A : Nat → Nat → Int} {x : Int} (h : Dv m k A x) : Dv m k (fun i j => A j i) x := fun f g hf hg => by
  have h1 := h g f hg hf
  rw [← det_tr k (fun r c => A (g r) (f c))] at h1
  exact h1
theorem Dv_radd {m k : Nat} {A : Nat → Nat → Int} {x : Int} (h : Dv m k A x) {a b : Nat} (t : Int) (hb : b < m) : Dv m k (radd A a b t) x := fun f g hf hg => by
  by_cases hinj : ∃ r s, r < k ∧ s < k ∧ r ≠ s ∧ f r = f s
  · obtain ⟨r, s, hr, hs, hrs, he⟩ := hinj
    rw [det_rows_eq hrs hr hs fun j => by rw [he]]
    exact Int.dvd_zero _
  · by_cases hex : ∃ r, r < k ∧ f r = a
    · obtain ⟨r0, h1, h2⟩ := hex
      have hoth : ∀ r, r < k → r ≠ r0 → f r ≠ a := fun r hr hne q => hinj ⟨r, r0, hr, h1, hne, by rw [q, h2]⟩
      have e0 : det k (fun r c => radd A a b t (f r) (g c)) = det k (fun r c => if r = r0 then A a (g c) + t * A b (g c) else A (f r) (g c)) := det_congr fun r c hr hc => by
        unfold radd
        by_cases h3 : r = r0
        · subst h3; simp [h2]
        · simp [h3, hoth r hr h3]
      have e := det_row_lin (m := k) (A := fun r c => A (f r) (g c)) (B := fun r c => A (if r = r0 then b else f r) (g c)) (C := fun r c => if r = r0 then A a (g c) + t * A b (g c) else A (f r) (g c)) r0 1 t h1 (fun j => by simp [h2]) (fun i j hi => by simp [hi]) (fun i j hi => by simp [hi])
      rw [e0, e, Int.one_mul]
      exact Int.dvd_add (h f g hf hg) (Int.dvd_mul_of_dvd_right (h (fun r => if r = r0 then b else f r) g (fun r hr => by
        by_cases h3 : r = r0
        · simp [h3, hb]
        · simp [h3, hf r hr]) hg))
    · have e0 : det k (fun r c => radd A a b t (f r) (g c)) = det k (fun r c => A (f r) (g c)) := det_congr fun r c hr hc => by
        unfold radd
        rw [if_neg (fun q => hex ⟨r, hr, q⟩)]
      rw [e0]
      exact h f g hf hg
theorem Dv_cadd {m k : Nat} {A : Nat → Nat → Int} {x : Int} (h : Dv m k A x) {a b : Nat} (t : Int) (hb : b < m) : Dv m k (cadd A a b t) x := by
  have h1 := Dv_tr (Dv_radd (a := a) (Dv_tr h) t hb)
  exact h1
theorem Dv_cong {m k : Nat} {A B : Nat → Nat → Int} {x : Int} (hAB : ∀ i j, i < m → j < m → A i j = B i j) (h : Dv m k A x) : Dv m k B x := fun f g hf hg => by
  have h1 := h f g hf hg
  rwa [det_congr (B := fun r c => B (f r) (g c)) fun r c hr hc => hAB _ _ (hf r hr) (hg c hc)] at h1
theorem Dv_clo (m k : Nat) (x : Int) : Clo m (fun A => Dv m k A x) := ⟨fun _ _ _ t _ _ hb h => Dv_radd h t hb, fun _ _ _ t _ _ hb h => Dv_cadd h t hb, fun _ _ h1 h => Dv_cong h1 h⟩
theorem Dv_clo2 (m k : Nat) (x : Int) (A : Nat → Nat → Int) : Clo m (fun B => Dv m k B x → Dv m k A x) := by
  refine ⟨fun B a b t hab ha hb h h2 => h ?_, fun B a b t hab ha hb h h2 => h ?_, fun B C h1 h h2 => h (Dv_cong (fun i j hi hj => (h1 i j hi hj).symm) h2)⟩
  · refine Dv_cong (fun i j _ _ => ?_) (Dv_radd (a := a) (b := b) h2 (-t) hb)
    unfold radd
    by_cases hi : i = a
    · subst hi; simp [Ne.symm hab]; grind
    · simp [hi]
  · refine Dv_cong (fun i j _ _ => ?_) (Dv_cadd (a := a) (b := b) h2 (-t) hb)
    unfold cadd
    by_cases hj : j = a
    · subst hj; simp [Ne.symm hab]; grind
    · simp [hj]
def prodI (d : Nat → Int) : Nat → Int
  | 0 => 1
  | k + 1 => prodI d k * d k
theorem php : ∀ (k : Nat) (f : Nat → Nat), (∀ r, r < k + 1 → f r < k) → ∃ r s, r < s ∧ s < k + 1 ∧ f r = f s
  | 0, f, h => absurd (h 0 (by omega)) (Nat.not_lt_zero _)
  | k + 1, f, h => by
    by_cases hex : ∃ r, r < k + 1 ∧ f r = f (k + 1)
    · obtain ⟨r, h1, h2⟩ := hex
      exact ⟨r, k + 1, by omega, by omega, h2⟩
    · have hne : ∀ r, r < k + 1 → f r ≠ f (k + 1) := fun r hr q => hex ⟨r, hr, q⟩
      obtain ⟨r, s, h1, h2, h3⟩ := php k (fun r => if f r = k then f (k + 1) else f r) (fun r hr => by
        have h4 := h r (by omega)
        have h5 := h (k + 1) (by omega)
        have h6 := hne r hr
        show (if f r = k then f (k + 1) else f r) < k
        split <;> omega)
      refine ⟨r, s, h1, by omega, ?_⟩
      have h4 := hne r (by omega)
      have h5 := hne s (by omega)
      have h6 : (if f r = k then f (k + 1) else f r) = (if f s = k then f (k + 1) else f s) := h3
      split at h6 <;> split at h6 <;> omega
theorem chain_dvd {d : Nat → Int} {m : Nat} (h : ∀ i, i + 1 < m → d i ∣ d (i + 1)) : ∀ (t i : Nat), i + t < m → d i ∣ d (i + t)
  | 0, i, _ => Int.dvd_refl _
  | t + 1, i, hi => Int.dvd_trans (chain_dvd h t i (by omega)) (h (i + t) (by omega))
theorem dvd_sI {x : Int} {f : Nat → Int} : ∀ {n : Nat}, (∀ j, j < n → x ∣ f j) → x ∣ sI f n
  | 0, _ => Int.dvd_zero _
  | n + 1, h => Int.dvd_add (dvd_sI fun j hj => h j (by omega)) (h n (by omega))
theorem minor_dvd {d : Nat → Int} {m : Nat} (h : ∀ i, i + 1 < m → d i ∣ d (i + 1)) : ∀ (k : Nat) (f g : Nat → Nat), (∀ r, r < k → f r < m) → (∀ r, r < k → g r < m) → prodI d k ∣ det k (fun r c => diag d (f r) (g c))
  | 0, _, _, _, _ => Int.dvd_refl _
  | k + 1, f, g, hf, hg => by
    by_cases hinj : ∃ r s, r < k + 1 ∧ s < k + 1 ∧ r ≠ s ∧ f r = f s
    · obtain ⟨r, s, hr, hs, hrs, he⟩ := hinj
      rw [det_rows_eq hrs hr hs fun j => by rw [he]]
      exact Int.dvd_zero _
    · have hbig : ∃ r, r < k + 1 ∧ k ≤ f r := by
        refine Classical.byContradiction fun hno => ?_
        obtain ⟨r, s, h1, h2, h3⟩ := php k f (fun r hr => by
          rcases Nat.lt_or_ge (f r) k with q | q
          · exact q
          · exact absurd ⟨r, hr, q⟩ hno)
        exact hinj ⟨r, s, by omega, h2, by omega, h3⟩
      obtain ⟨r0, hr0, hbig⟩ := hbig
      have hmv : ∀ r, r < k + 1 → mvf r0 r < k + 1 := fun r hr => by unfold mvf; split <;> (try split) <;> omega
      rw [← det_mvf (fun r c => diag d (f r) (g c)) r0 hr0]
      refine dvd_sI fun j hj => ?_
      have h1 : d k ∣ diag d (f (mvf r0 0)) (g (mvf r0 j)) := by
        have h2 : mvf r0 0 = r0 := by unfold mvf; simp
        rw [h2]
        unfold diag
        split
        · have := chain_dvd h (f r0 - k) k (by have := hf r0 hr0; omega)
          rwa [show k + (f r0 - k) = f r0 by omega] at this
        · exact Int.dvd_zero _
      have h2 := minor_dvd h k (fun r => f (mvf r0 (r + 1))) (fun c => g (mvf r0 (skp j c))) (fun r hr => hf _ (hmv _ (by omega))) (fun c hc => hg _ (hmv _ (skp_lt hc)))
      show prodI d k * d k ∣ sgn j * (diag d (f (mvf r0 0)) (g (mvf r0 j)) * det k (fun i c => diag d (f (mvf r0 (i + 1))) (g (mvf r0 (skp j c)))))
      refine Int.dvd_mul_of_dvd_right ?_
      rw [Int.mul_comm]
      exact Int.mul_dvd_mul h1 h2
theorem prodI_shift (d : Nat → Int) : ∀ k, prodI d (k + 1) = d 0 * prodI (fun i => d (i + 1)) k
  | 0 => by show 1 * d 0 = d 0 * 1; omega
  | k + 1 => by
    show prodI d (k + 1) * d (k + 1) = d 0 * (prodI (fun i => d (i + 1)) k * d (k + 1))
    rw [prodI_shift d k, Int.mul_assoc]
theorem det_diag : ∀ (k : Nat) (d : Nat → Int), det k (diag d) = prodI d k
  | 0, _ => rfl
  | k + 1, d => by
    rw [prodI_shift, ← det_diag k (fun i => d (i + 1))]
    show sI (fun j => sgn j * (diag d 0 j * det k (fun i c => diag d (i + 1) (skp j c)))) (k + 1) = _
    rw [sI_shift, sI_0 (fun j _ => by
      have : diag d 0 (j + 1) = 0 := if_neg (by omega)
      rw [this]; simp)]
    have h0 : diag d 0 0 = d 0 := if_pos rfl
    rw [h0, show sgn 0 = 1 from rfl, Int.one_mul, Int.add_zero]
    congr 1
    refine det_congr fun i c _ _ => ?_
    rw [skp_0]
    unfold diag
    by_cases h : i = c
    · simp [h]
    · simp [h]
/-- all of it: the products of the first k, of an unchanging chain -/
theorem det_div (m : Nat) (A : Nat → Nat → Int) : ∃ d : Nat → Int, (∀ i, i + 1 < m → d i ∣ d (i + 1)) ∧ ∀ k x, k ≤ m → (Dv m k A x ↔ x ∣ prodI d k) := by
  obtain ⟨d, h1, -, h2⟩ := smith m A
  refine ⟨d, h1, fun k x hk => ⟨fun h => ?_, fun h => ?_⟩⟩
  · have h3 := h2 _ (Dv_clo m k x) h id id (fun r hr => by show r < m; omega) (fun r hr => by show r < m; omega)
    have h4 : det k (fun r c => diag d (id r) (id c)) = prodI d k := det_diag k d
    rwa [h4] at h3
  · refine h2 _ (Dv_clo2 m k x A) (fun h3 => h3) (fun f g hf hg => ?_)
    exact Int.dvd_trans h (minor_dvd h1 k f g hf hg)
/-- it is enough to look at rising rows and columns -/
theorem rise {k m : Nat} (P : (Nat → Nat) → Prop) (h0 : ∀ f, (∃ r s, r < k ∧ s < k ∧ r ≠ s ∧ f r = f s) → P f) (hsw : ∀ f r, r + 1 < k → P (fun i => if i = r then f (r + 1) else if i = r + 1 then f r else f i) → P f) (hr : ∀ f, (∀ r, r < k → f r < m) → (∀ r, r + 1 < k → f r < f (r + 1)) → P f) : ∀ f, (∀ r, r < k → f r < m) → P f := by
  have key : ∀ (N : Nat) (f : Nat → Nat), (∀ r, r < k → f r < m) → sI (fun r => ((k : Int) - r) * f r) k ≤ N → P f := by
    intro N
    induction N with
    | zero =>
      intro f hf hN
      by_cases hup : ∀ r, r + 1 < k → f r < f (r + 1)
      · exact hr f hf hup
      · have hex : ∃ r, r + 1 < k ∧ f (r + 1) ≤ f r := Classical.byContradiction fun hno => hup fun r h1 => by
          rcases Nat.lt_or_ge (f r) (f (r + 1)) with q | q
          · exact q
          · exact absurd ⟨r, h1, q⟩ hno
        obtain ⟨r, h1, h2⟩ := hex
        by_cases heq : f r = f (r + 1)
        · exact h0 f ⟨r, r + 1, by omega, h1, by omega, heq⟩
        · have h3 : ((k : Int) - r) * f r ≤ sI (fun r => ((k : Int) - r) * f r) k := sI_ge1 (f := fun r => ((k : Int) - r) * f r) r (n := k) (by omega) (fun j hj => Int.mul_nonneg (by omega) (by omega))
          have h4 : (1 : Int) * 1 ≤ ((k : Int) - r) * f r := Int.mul_le_mul (by omega) (by omega) (by omega) (by omega)
          omega
    | succ N ih =>
      intro f hf hN
      by_cases hup : ∀ r, r + 1 < k → f r < f (r + 1)
      · exact hr f hf hup
      · have hex : ∃ r, r + 1 < k ∧ f (r + 1) ≤ f r := Classical.byContradiction fun hno => hup fun r h1 => by
          rcases Nat.lt_or_ge (f r) (f (r + 1)) with q | q
          · exact q
          · exact absurd ⟨r, h1, q⟩ hno
        obtain ⟨r, h1, h2⟩ := hex
        by_cases heq : f r = f (r + 1)
        · exact h0 f ⟨r, r + 1, by omega, h1, by omega, heq⟩
        · refine hsw f r h1 (ih _ (fun i hi => ?_) ?_)
          · show (if i = r then f (r + 1) else if i = r + 1 then f r else f i) < m
            split
            · exact hf _ h1
            · split
              · exact hf _ (by omega)
              · exact hf _ hi
          · have e1 := sI_upd (f := fun i => ((k : Int) - i) * f i) (g := fun i => ((k : Int) - i) * ((if i = r then f (r + 1) else f i : Nat) : Int)) r (n := k) (by omega) (fun j _ hj => by simp only [if_neg hj])
            have e2 := sI_upd (f := fun i => ((k : Int) - i) * ((if i = r then f (r + 1) else f i : Nat) : Int)) (g := fun i => ((k : Int) - i) * ((if i = r then f (r + 1) else if i = r + 1 then f r else f i : Nat) : Int)) (r + 1) (n := k) h1 (fun j _ hj => by
              by_cases hjr : j = r
              · simp only [if_pos hjr]
              · simp only [if_neg hjr, if_neg hj])
            rw [if_pos (show r = r from rfl)] at e1
            rw [if_neg (show ¬ r + 1 = r by omega), if_neg (show ¬ r + 1 = r by omega), if_pos (show r + 1 = r + 1 from rfl)] at e2
            have e3 : ((k : Int) - r) * (f (r + 1) : Int) - ((k : Int) - r) * (f r : Int) + (((k : Int) - ((r + 1 : Nat) : Int)) * (f r : Int) - ((k : Int) - ((r + 1 : Nat) : Int)) * (f (r + 1) : Int)) = (f (r + 1) : Int) - (f r : Int) := by
              push_cast
              grind
            have h3 : (f (r + 1) : Int) + 1 ≤ (f r : Int) := by omega
            omega
  intro f hf
  exact key (sI (fun r => ((k : Int) - r) * f r) k).toNat f hf (by
    have := sI_nn (f := fun r => ((k : Int) - r) * f r) (n := k) (fun j hj => Int.mul_nonneg (by omega) (by omega))
    omega)
theorem Dv_rise {m k : Nat} {A : Nat → Nat → Int} {x : Int} (h : ∀ f g : Nat → Nat, (∀ r, r < k → f r < m) → (∀ r, r < k → g r < m) → (∀ r, r + 1 < k → f r < f (r + 1)) → (∀ r, r + 1 < k → g r < g (r + 1)) → x ∣ det k (fun r c => A (f r) (g c))) : Dv m k A x := by
  intro f g hf hg
  refine rise (k := k) (m := m) (fun f => x ∣ det k (fun r c => A (f r) (g c))) (fun f ⟨r, s, h1, h2, h3, h4⟩ => by
    show x ∣ det k (fun r c => A (f r) (g c))
    rw [det_rows_eq h3 h1 h2 fun j => by rw [h4]]; exact Int.dvd_zero _) (fun f r h1 h2 => ?_) (fun f hf hfr => ?_) f hf
  · have e := det_row_swap (m := k) (A := fun r c => A (f r) (g c)) (B := fun i c => A (if i = r then f (r + 1) else if i = r + 1 then f r else f i) (g c)) r h1 (fun j => by simp) (fun j => by simp) (fun i j a b => by simp [a, b])
    have h3 : x ∣ det k (fun i c => A (if i = r then f (r + 1) else if i = r + 1 then f r else f i) (g c)) := h2
    rw [e] at h3
    exact Int.dvd_neg.mp h3
  · refine rise (k := k) (m := m) (fun g => x ∣ det k (fun r c => A (f r) (g c))) (fun g ⟨r, s, h1, h2, h3, h4⟩ => by
      show x ∣ det k (fun r c => A (f r) (g c))
      rw [det_cols_eq h3 h1 h2 fun j => by rw [h4]]; exact Int.dvd_zero _) (fun g r h1 h2 => ?_) (fun g hg hgr => h f g hf hg hfr hgr) g hg
    have e := det_col_swap (m := k) (A := fun r c => A (f r) (g c)) (B := fun i c => A (f i) (if c = r then g (r + 1) else if c = r + 1 then g r else g c)) r h1 (fun j => by simp) (fun j => by simp) (fun i j a b => by simp [a, b])
    have h3 : x ∣ det k (fun i c => A (f i) (if c = r then g (r + 1) else if c = r + 1 then g r else g c)) := h2
    rw [e] at h3
    exact Int.dvd_neg.mp h3
