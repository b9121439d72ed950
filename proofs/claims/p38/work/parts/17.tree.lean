/-! TREES: taking each edge or not comes to the determinant -/
/-- row and column i as those of the unit matrix -/
def idr (i : Nat) (A : Nat → Nat → Int) : Nat → Nat → Int := fun r c => if r = i ∨ c = i then (if r = c then 1 else 0) else A r c
theorem det_idr {m i : Nat} (hi : i < m + 1) (A : Nat → Nat → Int) : det (m + 1) (idr i A) = det m (fun r k => A (skp i r) (skp i k)) := by
  rw [det_delta i hi (A := idr i A) (fun j => by unfold idr; rw [if_pos (Or.inl rfl)]; by_cases h : i = j <;> simp [h, eq_comm])]
  exact det_congr fun r k _ _ => by
    unfold idr
    rw [if_neg (by rintro (h | h) <;> (revert h; unfold skp; split <;> omega))]
theorem det_R0 {m i : Nat} (hi : i < m + 1) {A B : Nat → Nat → Int} (e : Int) (h : ∀ r c, B r c = A r c + (if r = i ∧ c = i then e else 0)) : det (m + 1) B = det (m + 1) A + e * det (m + 1) (idr i A) := by
  have e1 := det_row_lin (m := m + 1) (A := A) (B := fun r c => if r = i then (if c = i then 1 else 0) else A r c) (C := B) i 1 e hi (fun j => by rw [h]; by_cases hj : j = i <;> simp [hj]) (fun r j hr => by rw [h]; simp [hr]) (fun r j hr => by rw [h]; simp [hr])
  have e2 : det (m + 1) (fun r c => if r = i then (if c = i then 1 else 0) else A r c) = det (m + 1) (idr i A) := by
    rw [det_idr hi, det_delta i hi (A := fun r c => if r = i then (if c = i then 1 else 0) else A r c) (fun j => by simp)]
    exact det_congr fun r k _ _ => by
      have : skp i r ≠ i := by unfold skp; split <;> omega
      simp [this]
  rw [e1, e2]; omega
/-- row and column i added to row and column j -/
def pij (i j : Nat) (A : Nat → Nat → Int) : Nat → Nat → Int := fun r c => A r c + (if r = j then A i c else 0) + ((if c = j then A r i else 0) + (if r = j ∧ c = j then A i i else 0))
theorem det_pij {m i j : Nat} (hij : j ≠ i) (hi : i < m) (hj : j < m) (A : Nat → Nat → Int) : det m (pij i j A) = det m A := by
  have e1 := det_row_add (m := m) (A := A) (B := fun r c => A r c + (if r = j then A i c else 0)) hij hj hi 1 (fun c => by simp) (fun r c hr => by simp [hr])
  have e2 := det_col_add (m := m) (A := fun r c => A r c + (if r = j then A i c else 0)) (B := pij i j A) hij hj hi 1 (fun r => by
    unfold pij
    by_cases hr : r = j
    · simp [hr] <;> omega
    · simp [hr]) (fun r c hc => by unfold pij; simp [hc])
  rw [e2, e1]
theorem det_R1 {m i j : Nat} (hij : j ≠ i) (hi : i < m + 1) (hj : j < m + 1) {A B : Nat → Nat → Int} (e : Int) (h : ∀ r c, B r c = A r c + e * (((if r = i then 1 else 0) - (if r = j then 1 else 0)) * ((if c = i then 1 else 0) - (if c = j then 1 else 0)))) : det (m + 1) B = det (m + 1) A + e * det (m + 1) (idr i (pij i j A)) := by
  rw [← det_pij hij hi hj A, ← det_pij hij hi hj B]
  refine det_R0 hi e fun r c => ?_
  unfold pij
  simp only [h]
  by_cases h1 : r = i
  · by_cases h2 : c = i
    · subst h1; subst h2; simp [hij, Ne.symm hij] <;> omega
    · by_cases h3 : c = j
      · subst h1; subst h3; simp [hij, Ne.symm hij] <;> omega
      · subst h1; simp [h2, h3, Ne.symm hij]
  · by_cases h4 : r = j
    · by_cases h2 : c = i
      · subst h4; subst h2; simp [hij, Ne.symm hij] <;> omega
      · by_cases h3 : c = j
        · subst h4; subst h3; simp [hij, Ne.symm hij] <;> omega
        · subst h4; simp [h1, h2, h3]
    · by_cases h2 : c = i
      · subst h2; simp [h1, h4]
      · by_cases h3 : c = j
        · subst h3; simp [h1, h4]
        · simp [h1, h4, h2, h3]
/-- a label of its own, not the root's -/
def act (n z : Nat) (pt : Nat → Nat) (i : Nat) : Bool := decide (i < n) && decide (pt i = i) && decide (i ≠ pt z)
def bv (n z : Nat) (pt : Nat → Nat) (p i : Nat) : Int := if i = p ∧ act n z pt p = true then 1 else 0
/-- the matrix of what is left: edges L (with the weights E) between labels -/
def Qm (n z : Nat) (E : Nat → Nat → Nat) (pt : Nat → Nat) : List (Nat × Nat) → Nat → Nat → Int
  | [] => fun i j => if i = j then (if act n z pt i = true then 0 else 1) else 0
  | ab :: L => fun i j => Qm n z E pt L i j + (E ab.1 ab.2 : Int) * ((bv n z pt (pt ab.1) i - bv n z pt (pt ab.2) i) * (bv n z pt (pt ab.1) j - bv n z pt (pt ab.2) j))
def mrg (pt : Nat → Nat) (x y : Nat) : Nat → Nat := fun v => if pt v = x then y else pt v
/-- labels: what points to itself -/
def Lab (n : Nat) (pt : Nat → Nat) : Prop := ∀ v, v < n → pt v < n ∧ pt (pt v) = pt v
theorem lab_mrg {n : Nat} {pt : Nat → Nat} (h : Lab n pt) {x y : Nat} (hy : y < n) (hyl : pt y = y) (hxy : x ≠ y) : Lab n (mrg pt x y) := fun v hv => by
  have h1 := h v hv
  unfold mrg
  by_cases hx : pt v = x
  · simp only [if_pos hx]
    rw [hyl, if_neg (Ne.symm hxy)]
    exact ⟨hy, rfl⟩
  · simp only [if_neg hx]
    rw [h1.2, if_neg hx]
    exact ⟨h1.1, rfl⟩
theorem act_iff {n z : Nat} {pt : Nat → Nat} {i : Nat} : act n z pt i = true ↔ i < n ∧ pt i = i ∧ i ≠ pt z := by
  unfold act; simp [and_assoc]
/-- x goes into y, both apart from the root -/
theorem act_mrg {n z : Nat} {pt : Nat → Nat} {x y : Nat} (hx : act n z pt x = true) (hxy : x ≠ y) (hyl : pt y = y) (i : Nat) : act n z (mrg pt x y) i = true ↔ act n z pt i = true ∧ i ≠ x := by
  rw [act_iff] at hx
  rw [act_iff, act_iff]
  have hz : mrg pt x y z = pt z := by unfold mrg; rw [if_neg (fun q => hx.2.2 q.symm)]
  rw [hz]
  constructor
  · rintro ⟨h1, h2, h3⟩
    by_cases hi : pt i = x
    · unfold mrg at h2
      rw [if_pos hi] at h2
      subst h2
      rw [hyl] at hi
      exact absurd hi.symm hxy
    · unfold mrg at h2
      rw [if_neg hi] at h2
      exact ⟨⟨h1, h2, h3⟩, fun q => hi (by rw [h2, q])⟩
  · rintro ⟨⟨h1, h2, h3⟩, h4⟩
    refine ⟨h1, ?_, h3⟩
    unfold mrg
    rw [if_neg (fun q => h4 (by rw [← h2, q]))]
    exact h2
theorem bool_iff {a b : Bool} (h : a = true ↔ b = true) : a = b := by cases a <;> cases b <;> simp_all
theorem bv_mrg {n z : Nat} {pt : Nat → Nat} {x y : Nat} (hx : act n z pt x = true) (hxy : x ≠ y) (hyl : pt y = y) (hy : act n z pt y = true) {v i : Nat} (hi : i ≠ x) : bv n z (mrg pt x y) (mrg pt x y v) i = bv n z pt (pt v) i + (if i = y then bv n z pt (pt v) x else 0) := by
  have ha := act_mrg hx hxy hyl
  unfold bv
  by_cases hv : pt v = x
  · have h1 : mrg pt x y v = y := by unfold mrg; rw [if_pos hv]
    have h2 : act n z (mrg pt x y) y = true := (ha y).mpr ⟨hy, Ne.symm hxy⟩
    rw [h1, hv]
    simp only [h2, hx, and_true]
    by_cases hiy : i = y
    · simp [hiy, Ne.symm hxy]
    · simp [hiy, hi]
  · have h1 : mrg pt x y v = pt v := by unfold mrg; rw [if_neg hv]
    have h2 : (act n z (mrg pt x y) (pt v)) = act n z pt (pt v) := bool_iff ((ha (pt v)).trans (by simp [hv]))
    rw [h1, h2]
    have h3 : ¬ x = pt v := fun q => hv q.symm
    simp [h3]
theorem Qm_ctr {n z : Nat} {E : Nat → Nat → Nat} {pt : Nat → Nat} {x y : Nat} (hx : act n z pt x = true) (hxy : x ≠ y) (hyl : pt y = y) (hy : act n z pt y = true) : ∀ (L : List (Nat × Nat)) (i j : Nat), i ≠ x → j ≠ x → pij x y (Qm n z E pt L) i j = Qm n z E (mrg pt x y) L i j
  | [], i, j, hi, hj => by
    have h1 : act n z (mrg pt x y) i = act n z pt i := bool_iff ((act_mrg hx hxy hyl i).trans (by simp [hi]))
    unfold pij Qm
    simp only [h1, hx, if_true]
    simp [hi, hj, Ne.symm hi, Ne.symm hj]
  | ab :: L, i, j, hi, hj => by
    have ih := Qm_ctr (E := E) hx hxy hyl hy L i j hi hj
    have b1 := bv_mrg hx hxy hyl hy (v := ab.1) hi
    have b2 := bv_mrg hx hxy hyl hy (v := ab.2) hi
    have b3 := bv_mrg hx hxy hyl hy (v := ab.1) hj
    have b4 := bv_mrg hx hxy hyl hy (v := ab.2) hj
    show pij x y (Qm n z E pt (ab :: L)) i j = Qm n z E (mrg pt x y) L i j + _
    rw [← ih, b1, b2, b3, b4]
    unfold pij
    simp only [Qm]
    by_cases h1 : i = y <;> by_cases h2 : j = y <;> simp only [h1, h2, if_true, if_false, and_self, and_true, and_false, false_and, true_and] <;> grind
theorem Qm_x {n z : Nat} {E : Nat → Nat → Nat} {pt : Nat → Nat} {x : Nat} (hx : act n z pt x = false) : ∀ (L : List (Nat × Nat)) (i j : Nat), (i = x ∨ j = x) → Qm n z E pt L i j = if i = j then 1 else 0
  | [], i, j, h => by
    unfold Qm
    by_cases hij : i = j
    · subst hij
      rcases h with h | h <;> (subst h; simp [hx])
    · simp [hij]
  | ab :: L, i, j, h => by
    have ih := Qm_x (E := E) hx L i j h
    show Qm n z E pt L i j + _ = _
    rw [ih]
    have hb : ∀ p, bv n z pt p x = 0 := fun p => by
      unfold bv
      by_cases hp : x = p
      · rw [← hp, hx]; simp
      · simp [hp]
    rcases h with h | h
    · subst h; rw [hb, hb]; simp
    · subst h; rw [hb, hb]; simp
theorem det_Qm_ctr {n z : Nat} {E : Nat → Nat → Nat} {pt : Nat → Nat} {x y : Nat} (hx : act n z pt x = true) (hxy : x ≠ y) (hyl : pt y = y) (hy : act n z pt y = true) (L : List (Nat × Nat)) : det 6 (idr x (pij x y (Qm n z E pt L))) = det 6 (Qm n z E (mrg pt x y) L) := det_congr fun i j _ _ => by
  have h0 : act n z (mrg pt x y) x = false := by
    cases h : act n z (mrg pt x y) x
    · rfl
    · exact absurd rfl ((act_mrg hx hxy hyl x).mp h).2
  unfold idr
  by_cases h : i = x ∨ j = x
  · rw [if_pos h, Qm_x h0 L i j h]
  · rw [if_neg h]
    exact Qm_ctr hx hxy hyl hy L i j (fun q => h (Or.inl q)) (fun q => h (Or.inr q))
/-- x goes into the root, or the root into x -/
theorem Qm_rt {n z : Nat} {E : Nat → Nat → Nat} {pt pt' : Nat → Nat} {x : Nat} (hb : ∀ v i, i ≠ x → bv n z pt' (pt' v) i = bv n z pt (pt v) i) (ha : ∀ i, i ≠ x → act n z pt' i = act n z pt i) : ∀ (L : List (Nat × Nat)) (i j : Nat), i ≠ x → j ≠ x → Qm n z E pt L i j = Qm n z E pt' L i j
  | [], i, j, hi, _ => by unfold Qm; rw [ha i hi]
  | ab :: L, i, j, hi, hj => by
    show Qm n z E pt L i j + _ = Qm n z E pt' L i j + _
    rw [Qm_rt hb ha L i j hi hj, hb _ i hi, hb _ i hi, hb _ j hj, hb _ j hj]
theorem det_Qm_rt {n z : Nat} {E : Nat → Nat → Nat} {pt pt' : Nat → Nat} {x : Nat} (hb : ∀ v i, i ≠ x → bv n z pt' (pt' v) i = bv n z pt (pt v) i) (ha : ∀ i, i ≠ x → act n z pt' i = act n z pt i) (h0 : act n z pt' x = false) (L : List (Nat × Nat)) : det 6 (idr x (Qm n z E pt L)) = det 6 (Qm n z E pt' L) := det_congr fun i j _ _ => by
  unfold idr
  by_cases h : i = x ∨ j = x
  · rw [if_pos h, Qm_x h0 L i j h]
  · rw [if_neg h]
    exact Qm_rt hb ha L i j (fun q => h (Or.inl q)) (fun q => h (Or.inr q))
