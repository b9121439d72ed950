/-! EDGES between two, both sides alike -/
theorem jnE_e {E : Nat → Nat → Nat} {v u x a b : Nat} : jnE E v u x a b = if (a = v ∧ b = u) ∨ (a = u ∧ b = v) then x else E a b := rfl
theorem jnE_gr {n : Nat} {E : Nat → Nat → Nat} (hG : Gr n E) {v u x : Nat} (hv : v < n) (hu : u < n) (hvu : v ≠ u) (hx : x ≤ 3) : Gr n (jnE E v u x) := by
  obtain ⟨hn, hS, h0, ho, h3⟩ := hG
  refine ⟨hn, fun i j => ?_, fun i => ?_, fun i j hi => ?_, fun i j => ?_⟩
  · rw [jnE_e, jnE_e]
    by_cases h : (i = v ∧ j = u) ∨ (i = u ∧ j = v)
    · rw [if_pos h, if_pos (h.elim (fun q => Or.inr ⟨q.2, q.1⟩) (fun q => Or.inl ⟨q.2, q.1⟩))]
    · rw [if_neg h, if_neg (fun q => h (q.elim (fun q => Or.inr ⟨q.2, q.1⟩) (fun q => Or.inl ⟨q.2, q.1⟩))), hS]
  · rw [jnE_e, if_neg (fun q => q.elim (fun q => hvu (q.1.symm.trans q.2)) (fun q => hvu (q.2.symm.trans q.1))), h0]
  · rw [jnE_e, if_neg (fun q => q.elim (fun q => by omega) (fun q => by omega)), ho i j hi]
  · rw [jnE_e]
    split
    · exact hx
    · exact h3 i j
theorem jnJ_at {E : Nat → Nat → Nat} {v u x : Nat} (hv : v < 6) (hu : u < 6) {i : Nat} (hi : i < 36) : jnJ (fjE E) v u (nI x) i = fjE (jnE E v u x) i := by
  unfold jnJ
  show upd (upd (fjE E) (v * 6 + u) (nI x)) (u * 6 + v) (nI x) i = nI (jnE E v u x (i / 6) (i % 6))
  rw [jnE_e]
  by_cases h1 : i = u * 6 + v
  · rw [h1, upd_s, if_pos (Or.inr ⟨by omega, by omega⟩)]
  · rw [upd_n _ _ h1]
    by_cases h2 : i = v * 6 + u
    · rw [h2, upd_s, if_pos (Or.inl ⟨by omega, by omega⟩)]
    · rw [upd_n _ _ h2, if_neg (fun q => q.elim (fun q => h2 (by omega)) (fun q => h1 (by omega)))]
      rfl
theorem sum_one {f g : Nat → Nat} {u : Nat} : ∀ {n : Nat}, u < n → (∀ j, j < n → j ≠ u → f j = g j) → sumN f n + g u = sumN g n + f u
  | 0, h, _ => absurd h (Nat.not_lt_zero _)
  | n + 1, h, hq => by
    show sumN f n + f n + g u = sumN g n + g n + f u
    by_cases e : u = n
    · subst e
      rw [sumN_eq (f := f) (g := g) fun j hj => hq j (by omega) (by omega)]
      omega
    · have := sum_one (f := f) (g := g) (u := u) (n := n) (by omega) fun j hj => hq j (by omega)
      have h2 := hq n (by omega) (fun q => e q.symm)
      omega
theorem dg_jn {E : Nat → Nat → Nat} {v u x : Nat} (hv : v < 6) (hu : u < 6) (hvu : v ≠ u) (hS : ∀ i j, E i j = E j i) : dg (jnE E v u x) v + E v u = dg E v + x ∧ dg (jnE E v u x) u + E v u = dg E u + x ∧ ∀ w, w ≠ v → w ≠ u → dg (jnE E v u x) w = dg E w := by
  refine ⟨?_, ?_, fun w h1 h2 => sumN_eq fun j _ => ?_⟩
  · have h := sum_one (f := jnE E v u x v) (g := E v) (u := u) (n := 6) hu fun j _ hj => by
      rw [jnE_e, if_neg (fun q => q.elim (fun q => hj q.2) (fun q => hvu q.1))]
    have h2 : jnE E v u x v u = x := if_pos (Or.inl ⟨rfl, rfl⟩)
    rw [h2] at h
    exact h
  · have h := sum_one (f := jnE E v u x u) (g := E u) (u := v) (n := 6) hv fun j _ hj => by
      rw [jnE_e, if_neg (fun q => q.elim (fun q => hvu q.1.symm) (fun q => hj q.2))]
    have h2 : jnE E v u x u v = x := if_pos (Or.inr ⟨rfl, rfl⟩)
    rw [h2, hS u v] at h
    exact h
  · rw [jnE_e, if_neg (fun q => q.elim (fun q => h1 q.1) (fun q => h2 q.1))]
theorem i32_swap {a b e x : Nat} (h : b + e = a + x) : nI a + (nI x - nI e) = nI b := by
  have : nI b + nI e = nI a + nI x := by rw [nI_add, nI_add, h]
  rw [Int32.sub_eq_add_neg, ← Int32.add_assoc, ← this, Int32.add_assoc, Int32.add_right_neg, Int32.add_zero]
theorem jnD_at {E : Nat → Nat → Nat} {v u x : Nat} (hv : v < 6) (hu : u < 6) (hvu : v ≠ u) (hS : ∀ i j, E i j = E j i) (i : Nat) : jnD (fjE E) (fdE E) v u (nI x) i = fdE (jnE E v u x) i := by
  obtain ⟨d1, d2, d3⟩ := dg_jn (x := x) hv hu hvu hS
  unfold jnD
  have e1 : fdE E v + (nI x - fjE E (v * 6 + u)) = nI (dg (jnE E v u x) v) := by
    rw [fjE_at E hu]
    exact i32_swap d1
  have e2 : upd (fjE E) (v * 6 + u) (nI x) (u * 6 + v) = nI (E v u) := by
    rw [upd_n _ _ (by omega), fjE_at E hv, hS u v]
  rw [e1, e2]
  show _ = nI (dg (jnE E v u x) i)
  by_cases h1 : i = u
  · rw [h1, upd_s, upd_n _ _ (fun q => hvu q.symm)]
    exact i32_swap d2
  · rw [upd_n _ _ h1]
    by_cases h2 : i = v
    · rw [h2, upd_s]
    · rw [upd_n _ _ h2, d3 i h2 h1]
      rfl
/-- one vertex more, no edges to it -/
theorem gr_up {n : Nat} {E : Nat → Nat → Nat} (hG : Gr n E) (h : n < 6) : Gr (n + 1) E := ⟨by omega, hG.2.1, hG.2.2.1, fun i j hi => hG.2.2.2.1 i j (by omega), hG.2.2.2.2⟩
