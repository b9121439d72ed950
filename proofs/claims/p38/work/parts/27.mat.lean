/-! MATRICES: rows exchanged; bounds; none where the graph falls apart; the matrix of the others and those of all pairs -/
def swf (a b r : Nat) : Nat := if r = a then b else if r = b then a else r
theorem det_swap {m : Nat} (A : Nat → Nat → Int) {a b : Nat} (hab : a ≠ b) (ha : a < m) (hb : b < m) : det m (fun r c => A (swf a b r) c) = - det m A := by
  let A1 : Nat → Nat → Int := fun i j => if i = a then A a j + A b j else A i j
  let A2 : Nat → Nat → Int := fun i j => if i = b then - A a j else A1 i j
  let A3 : Nat → Nat → Int := fun i j => if i = a then A b j else A2 i j
  have e1 : det m A1 = det m A := det_row_add hab ha hb 1 (fun j => by show (if a = a then A a j + A b j else _) = _; rw [if_pos rfl]; omega) (fun i j hi => if_neg hi)
  have e2 : det m A2 = det m A1 := det_row_add (Ne.symm hab) hb ha (-1) (fun j => by
    show (if b = b then - A a j else _) = (if b = a then _ else A b j) + -1 * (if a = a then A a j + A b j else _)
    rw [if_pos rfl, if_pos rfl, if_neg (Ne.symm hab)]; omega) (fun i j hi => if_neg hi)
  have e3 : det m A3 = det m A2 := det_row_add hab ha hb 1 (fun j => by
    show (if a = a then A b j else _) = (if a = b then - A a j else if a = a then A a j + A b j else _) + 1 * (if b = b then - A a j else _)
    rw [if_pos rfl, if_neg hab, if_pos rfl, if_pos rfl]; omega) (fun i j hi => if_neg hi)
  have e4 : det m (fun r c => A (swf a b r) c) = -1 * det m A3 := det_row_scale hb (-1) (fun j => by
    show A (swf a b b) j = -1 * (if b = a then A b j else if b = b then - A a j else _)
    rw [if_neg (Ne.symm hab), if_pos rfl]
    unfold swf
    rw [if_neg (Ne.symm hab), if_pos rfl]; omega) (fun i j hi => by
    show A (swf a b i) j = (if i = a then A b j else if i = b then - A a j else if i = a then A a j + A b j else A i j)
    unfold swf
    by_cases hia : i = a
    · rw [if_pos hia, if_pos hia]
    · rw [if_neg hia, if_neg hi, if_neg hia, if_neg hi, if_neg hia])
  omega
def fct : Nat → Int
  | 0 => 1
  | n + 1 => ((n : Int) + 1) * fct n
theorem fct_pos : ∀ n, 0 ≤ fct n
  | 0 => by decide
  | n + 1 => Int.mul_nonneg (by omega) (fct_pos n)
theorem prodI_nn {b : Nat → Int} (h : ∀ i, 0 ≤ b i) : ∀ n, 0 ≤ prodI b n
  | 0 => by show (0 : Int) ≤ 1; omega
  | n + 1 => Int.mul_nonneg (prodI_nn h n) (h n)
theorem prodI_skp (b : Nat → Int) {j : Nat} : ∀ {m : Nat}, j < m + 1 → prodI b (m + 1) = b j * prodI (fun k => b (skp j k)) m
  | 0, h => by
    have : j = 0 := by omega
    subst this
    show (1 : Int) * b 0 = b 0 * 1
    omega
  | m + 1, h => by
    show prodI b (m + 1) * b (m + 1) = b j * (prodI (fun k => b (skp j k)) m * b (skp j m))
    by_cases hj : j < m + 1
    · rw [prodI_skp b hj, show skp j m = m + 1 by unfold skp; rw [if_neg (by omega)], Int.mul_assoc]
    · have hjm : j = m + 1 := by omega
      subst hjm
      have h1 : ∀ n, n ≤ m + 1 → prodI (fun k => b (skp (m + 1) k)) n = prodI b n := by
        intro n
        induction n with
        | zero => intro _; rfl
        | succ n ih =>
          intro hn
          show prodI _ n * b (skp (m + 1) n) = prodI b n * b n
          rw [ih (by omega), show skp (m + 1) n = n by unfold skp; rw [if_pos (by omega)]]
      rw [h1 m (by omega), show skp (m + 1) m = m by unfold skp; rw [if_pos (by omega)]]
      show prodI b m * b m * b (m + 1) = _
      rw [Int.mul_comm]
theorem det_bound : ∀ {m : Nat} {A : Nat → Nat → Int} {b : Nat → Int}, (∀ j, 0 ≤ b j) → (∀ i j, i < m → j < m → - b j ≤ A i j ∧ A i j ≤ b j) → - (fct m * prodI b m) ≤ det m A ∧ det m A ≤ fct m * prodI b m
  | 0, A, b, _, _ => by
    show - ((1 : Int) * 1) ≤ 1 ∧ (1 : Int) ≤ 1 * 1
    omega
  | m + 1, A, b, hb, h => by
    have hterm : ∀ j, j < m + 1 → - (fct m * prodI b (m + 1)) ≤ sgn j * (A 0 j * det m (fun r k => A (r + 1) (skp j k))) ∧ sgn j * (A 0 j * det m (fun r k => A (r + 1) (skp j k))) ≤ fct m * prodI b (m + 1) := fun j hj => by
      have h1 := det_bound (m := m) (A := fun r k => A (r + 1) (skp j k)) (b := fun k => b (skp j k)) (fun k => hb _) (fun i k hi hk => h (i + 1) (skp j k) (by omega) (skp_lt hk))
      have h2 := h 0 j (by omega) hj
      rw [prodI_skp b hj]
      generalize hD : det m (fun r k => A (r + 1) (skp j k)) = D at h1 ⊢
      generalize hM : fct m * prodI (fun k => b (skp j k)) m = M at h1
      have hM0 : 0 ≤ M := by rw [← hM]; exact Int.mul_nonneg (fct_pos m) (prodI_nn (fun _ => hb _) m)
      have e : fct m * (b j * prodI (fun k => b (skp j k)) m) = b j * M := by rw [← hM, ← Int.mul_assoc, Int.mul_comm (fct m), Int.mul_assoc]
      rw [e]
      -- |A0j D| <= bj M
      have g1 : A 0 j * D ≤ b j * M ∧ - (b j * M) ≤ A 0 j * D := by
        have p1 := Int.mul_nonneg (show 0 ≤ b j - A 0 j by omega) (show 0 ≤ M + D by omega)
        have p2 := Int.mul_nonneg (show 0 ≤ b j + A 0 j by omega) (show 0 ≤ M - D by omega)
        have p3 := Int.mul_nonneg (show 0 ≤ b j - A 0 j by omega) (show 0 ≤ M - D by omega)
        have p4 := Int.mul_nonneg (show 0 ≤ b j + A 0 j by omega) (show 0 ≤ M + D by omega)
        have x1 : (b j - A 0 j) * (M + D) + (b j + A 0 j) * (M - D) = 2 * (b j * M) - 2 * (A 0 j * D) := by grind
        have x2 : (b j - A 0 j) * (M - D) + (b j + A 0 j) * (M + D) = 2 * (b j * M) + 2 * (A 0 j * D) := by grind
        omega
      unfold sgn
      split <;> omega
    show - (((m : Int) + 1) * fct m * prodI b (m + 1)) ≤ sI (fun j => sgn j * (A 0 j * det m (fun r k => A (r + 1) (skp j k)))) (m + 1) ∧ sI (fun j => sgn j * (A 0 j * det m (fun r k => A (r + 1) (skp j k)))) (m + 1) ≤ ((m : Int) + 1) * fct m * prodI b (m + 1)
    have hc : ∀ (c : Int) n, sI (fun _ => c) n = (n : Int) * c := fun c n => by
      induction n with
      | zero => show (0 : Int) = ((0 : Nat) : Int) * c; rw [Int.natCast_zero, Int.zero_mul]
      | succ n ih =>
        show sI (fun _ => c) n + c = _
        rw [ih]; push_cast; rw [Int.add_mul, Int.one_mul]
    have u1 := sI_le (f := fun j => sgn j * (A 0 j * det m (fun r k => A (r + 1) (skp j k)))) (g := fun _ => fct m * prodI b (m + 1)) (n := m + 1) fun j hj => (hterm j hj).2
    have u2 := sI_le (f := fun _ => - (fct m * prodI b (m + 1))) (g := fun j => sgn j * (A 0 j * det m (fun r k => A (r + 1) (skp j k)))) (n := m + 1) fun j hj => (hterm j hj).1
    rw [hc] at u1 u2
    have e : ((m : Int) + 1) * fct m * prodI b (m + 1) = ((m + 1 : Nat) : Int) * (fct m * prodI b (m + 1)) := by push_cast; rw [Int.mul_assoc]
    have e2 : ((m + 1 : Nat) : Int) * -(fct m * prodI b (m + 1)) = - (((m + 1 : Nat) : Int) * (fct m * prodI b (m + 1))) := Int.mul_neg _ _
    rw [e]
    omega
/-- columns of a set that come to nothing together -/
theorem det_dep {m : Nat} {A : Nat → Nat → Int} {S : Nat → Bool} {c : Nat} (hc : c < m) (hS : S c = true) (h : ∀ i, sI (fun j => if S j = true then A i j else 0) m = 0) : det m A = 0 := by
  have key : ∀ k, k ≤ m → det m (fun i j => if j = c then A i c + sI (fun l => if S l = true ∧ l ≠ c then A i l else 0) k else A i j) = det m A := by
    intro k
    induction k with
    | zero =>
      intro _
      exact det_congr fun i j _ _ => by
        by_cases hj : j = c
        · rw [if_pos hj, hj]; show A i c + 0 = _; omega
        · rw [if_neg hj]
    | succ k ih =>
      intro hk
      rw [← ih (by omega)]
      by_cases hq : S k = true ∧ k ≠ c
      · refine det_col_add (a := c) (b := k) (Ne.symm hq.2) hc (by omega) 1 (fun i => ?_) (fun i j hj => ?_)
        · show (if c = c then A i c + (sI (fun l => if S l = true ∧ l ≠ c then A i l else 0) k + if S k = true ∧ k ≠ c then A i k else 0) else _) = (if c = c then _ else _) + 1 * (if k = c then _ else A i k)
          rw [if_pos rfl, if_pos rfl, if_neg hq.2, if_pos hq]; omega
        · show (if j = c then _ else A i j) = (if j = c then _ else A i j)
          rw [if_neg hj, if_neg hj]
      · exact det_congr fun i j _ _ => by
          by_cases hj : j = c
          · rw [if_pos hj, if_pos hj]
            show A i c + (sI (fun l => if S l = true ∧ l ≠ c then A i l else 0) k + if S k = true ∧ k ≠ c then A i k else 0) = _
            rw [if_neg hq]; omega
          · rw [if_neg hj, if_neg hj]
  rw [← key m (Nat.le_refl _)]
  have h0 : ∀ i, A i c + sI (fun l => if S l = true ∧ l ≠ c then A i l else 0) m = 0 := fun i => by
    have h1 := sI_upd (f := fun l => if S l = true ∧ l ≠ c then A i l else 0) (g := fun j => if S j = true then A i j else 0) c hc (fun j _ hj => by
      cases hSj : S j <;> simp [hj])
    rw [h i, if_pos hS, if_neg (by simp)] at h1
    omega
  rw [← det_tr]
  exact det_row0 hc fun j => by
    show (if c = c then A j c + _ else _) = 0
    rw [if_pos rfl]; exact h0 j
/-- the matrix of the others than z -/
def LM (E : Nat → Nat → Nat) (z : Nat) (i j : Nat) : Int := if i = j then (dg E (skp z i) : Int) else - (E (skp z i) (skp z j) : Int)
theorem skp_inj {z i j : Nat} (h : skp z i = skp z j) : i = j := by
  unfold skp at h
  split at h <;> split at h <;> omega
theorem skp_ne (z i : Nat) : skp z i ≠ z := by unfold skp; split <;> omega
theorem LM_sym {n : Nat} {E : Nat → Nat → Nat} (hG : Gr n E) (z i j : Nat) : LM E z i j = LM E z j i := by
  unfold LM
  by_cases h : i = j
  · rw [h]
  · rw [if_neg h, if_neg (Ne.symm h), hG.2.1]
/-- not all joined: the determinant is 0 -/
theorem det_LM_0 {m : Nat} {E : Nat → Nat → Nat} (hG : Gr (m + 1) E) {z : Nat} (hz : z < m + 1) (hC : ¬ Conn (m + 1) E) : det m (LM E z) = 0 := by
  have hex : ∃ S : Nat → Bool, Clos (m + 1) E S ∧ S z = false ∧ ∃ u, u < m + 1 ∧ S u = true := by
    have h1 : ∃ S : Nat → Bool, (∃ u, u < m + 1 ∧ S u = true) ∧ Clos (m + 1) E S ∧ ∃ v, v < m + 1 ∧ S v = false := by
      refine Classical.byContradiction fun hno => hC fun S hu hcl v hv => ?_
      cases hq : S v
      · exact absurd ⟨S, hu, hcl, v, hv, hq⟩ hno
      · rfl
    obtain ⟨S, ⟨u, hu, hSu⟩, hcl, v, hv, hSv⟩ := h1
    cases hq : S z
    · exact ⟨S, hcl, hq, u, hu, hSu⟩
    · refine ⟨fun w => !S w, fun x y hx hy hSx hE => ?_, by simp [hq], v, hv, by simp [hSv]⟩
      simp only [Bool.not_eq_true'] at hSx ⊢
      cases hSy : S y
      · rfl
      · have := hcl y x hy hx hSy (by rw [hG.2.1]; exact hE)
        rw [hSx] at this; cases this
  obtain ⟨S, hcl, hSz, u, hu, hSu⟩ := hex
  have huz : u ≠ z := fun q => by rw [q, hSz] at hSu; cases hSu
  let c : Nat := if u < z then u else u - 1
  have hcu : skp z c = u := by
    show skp z (if u < z then u else u - 1) = u
    unfold skp
    by_cases h : u < z
    · rw [if_pos h, if_pos h]
    · rw [if_neg h, if_neg (by omega)]; omega
  have hcm : c < m := by show (if u < z then u else u - 1) < m; split <;> omega
  have hn6 := hG.1
  refine det_dep (S := fun j => S (skp z j)) hcm (by show S (skp z c) = true; rw [hcu]; exact hSu) fun i => ?_
  by_cases him : i < m
  · -- all vertices together
    have h1 := sI_skp (f := fun w => if S w = true then (if skp z i = w then (dg E (skp z i) : Int) else - (E (skp z i) w : Int)) else 0) hz
    rw [hSz] at h1
    have h2 : sI (fun j => if S (skp z j) = true then LM E z i j else 0) m = sI (fun j => if S (skp z j) = true then (if skp z i = skp z j then (dg E (skp z i) : Int) else - (E (skp z i) (skp z j) : Int)) else 0) m := sI_congr fun j _ => by
      unfold LM
      by_cases hij : i = j
      · rw [hij]; simp
      · rw [if_neg hij, if_neg (fun q => hij (skp_inj q))]
    have h3 : sI (fun w => if S w = true then (if skp z i = w then (dg E (skp z i) : Int) else - (E (skp z i) w : Int)) else 0) (m + 1) = 0 := by
      have hi6 := skp_lt (j := z) him
      have h4 : (dg E (skp z i) : Int) = sI (fun w => (E (skp z i) w : Int)) (m + 1) := by
        unfold dg
        rw [sumN_I]
        exact sI_cut6 hn6 fun j hj => by rw [hG.2.1, hG.2.2.2.1 j _ hj]; rfl
      by_cases hSi : S (skp z i) = true
      · have h5 : sI (fun w => if S w = true then (if skp z i = w then (dg E (skp z i) : Int) else - (E (skp z i) w : Int)) else 0) (m + 1) = sI (fun w => (if w = skp z i then (dg E (skp z i) : Int) else 0) - (E (skp z i) w : Int)) (m + 1) := sI_congr fun w hw => by
          by_cases hwi : w = skp z i
          · rw [hwi, if_pos hSi, if_pos rfl, if_pos rfl, hG.2.2.1]; simp
          · rw [if_neg hwi, if_neg (Ne.symm hwi)]
            by_cases hSw : S w = true
            · rw [if_pos hSw]; omega
            · have : E (skp z i) w = 0 := by
                rcases Nat.eq_zero_or_pos (E (skp z i) w) with r | r
                · exact r
                · exact absurd (hcl _ w hi6 hw hSi r) hSw
              rw [if_neg hSw, this]; rfl
        rw [h5, sI_sub, sI_ite, if_pos hi6]
        omega
      · exact sI_0 fun w hw => by
          by_cases hSw : S w = true
          · have hne : ¬ skp z i = w := fun q => hSi (by rw [q]; exact hSw)
            have : E (skp z i) w = 0 := by
              rcases Nat.eq_zero_or_pos (E (skp z i) w) with r | r
              · exact r
              · exact absurd (hcl w _ hw hi6 hSw (by rw [hG.2.1]; exact r)) hSi
            rw [if_pos hSw, if_neg hne, this]; rfl
          · exact if_neg hSw
    rw [h2]
    simp only [Bool.false_eq_true, if_false, Int.add_zero] at h1
    rw [← h1]; exact h3
  · -- rows from m on: the vertex is none
    have hout : m + 1 ≤ skp z i := by unfold skp; rw [if_neg (by omega)]; omega
    refine sI_0 fun j hj => ?_
    have : LM E z i j = 0 := by
      unfold LM
      rw [if_neg (by omega), hG.2.2.2.1 _ _ hout]; rfl
    rw [this]; split <;> rfl
