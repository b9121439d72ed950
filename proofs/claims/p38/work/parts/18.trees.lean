/-! all sets of edges, one edge after the other -/
def Gs (E : Nat → Nat → Nat) : List (Nat × Nat) → Nat → (Nat → Nat) → Int
  | [], _, _ => 1
  | ab :: L, s, pt => if s % 2 = 0 then Gs E L (s / 2) pt else if pt ab.1 = pt ab.2 then 0 else (E ab.1 ab.2 : Int) * Gs E L (s / 2) (mrg pt (pt ab.1) (pt ab.2))
def popL : Nat → Nat → Nat
  | 0, _ => 0
  | m + 1, s => s % 2 + popL m (s / 2)
def FT (E : Nat → Nat → Nat) (L : List (Nat × Nat)) (pt : Nat → Nat) (r : Nat) : Int := sI (fun s => if popL L.length s = r then Gs E L s pt else 0) (2 ^ L.length)
theorem sI_dbl (g : Nat → Int) : ∀ n, sI g (2 * n) = sI (fun s => g (2 * s) + g (2 * s + 1)) n
  | 0 => rfl
  | n + 1 => by
    show sI g (2 * n + 2) = sI (fun s => g (2 * s) + g (2 * s + 1)) n + (g (2 * n) + g (2 * n + 1))
    rw [← sI_dbl g n]
    show sI g (2 * n) + g (2 * n) + g (2 * n + 1) = _
    omega
theorem FT_cons (E : Nat → Nat → Nat) (ab : Nat × Nat) (L : List (Nat × Nat)) (pt : Nat → Nat) (r : Nat) : FT E (ab :: L) pt r = FT E L pt r + (if r = 0 ∨ pt ab.1 = pt ab.2 then 0 else (E ab.1 ab.2 : Int) * FT E L (mrg pt (pt ab.1) (pt ab.2)) (r - 1)) := by
  have h1 : FT E (ab :: L) pt r = sI (fun s => (if popL L.length s = r then Gs E L s pt else 0) + (if 1 + popL L.length s = r then (if pt ab.1 = pt ab.2 then 0 else (E ab.1 ab.2 : Int) * Gs E L s (mrg pt (pt ab.1) (pt ab.2))) else 0)) (2 ^ L.length) := by
    unfold FT
    rw [show 2 ^ (ab :: L).length = 2 * 2 ^ L.length by rw [List.length_cons, Nat.pow_succ, Nat.mul_comm], sI_dbl]
    refine sI_congr fun s _ => ?_
    have e1 : popL (ab :: L).length (2 * s) = popL L.length s := by
      show (2 * s) % 2 + popL L.length (2 * s / 2) = _
      rw [show (2 * s) % 2 = 0 by omega, show 2 * s / 2 = s by omega, Nat.zero_add]
    have e2 : popL (ab :: L).length (2 * s + 1) = 1 + popL L.length s := by
      show (2 * s + 1) % 2 + popL L.length ((2 * s + 1) / 2) = _
      rw [show (2 * s + 1) % 2 = 1 by omega, show (2 * s + 1) / 2 = s by omega]
    have e3 : Gs E (ab :: L) (2 * s) pt = Gs E L s pt := by
      show (if (2 * s) % 2 = 0 then Gs E L (2 * s / 2) pt else _) = _
      rw [if_pos (by omega), show 2 * s / 2 = s by omega]
    have e4 : Gs E (ab :: L) (2 * s + 1) pt = if pt ab.1 = pt ab.2 then 0 else (E ab.1 ab.2 : Int) * Gs E L s (mrg pt (pt ab.1) (pt ab.2)) := by
      show (if (2 * s + 1) % 2 = 0 then _ else if pt ab.1 = pt ab.2 then 0 else (E ab.1 ab.2 : Int) * Gs E L ((2 * s + 1) / 2) _) = _
      rw [if_neg (by omega), show (2 * s + 1) / 2 = s by omega]
    simp only [e1, e2, e3, e4]
  rw [h1, sI_add]
  congr 1
  by_cases h : r = 0 ∨ pt ab.1 = pt ab.2
  · rw [if_pos h]
    refine sI_0 fun s _ => ?_
    rcases h with h | h
    · rw [if_neg (by omega)]
    · rw [if_pos h]; split <;> rfl
  · rw [if_neg h, show FT E L (mrg pt (pt ab.1) (pt ab.2)) (r - 1) = sI (fun s => if popL L.length s = r - 1 then Gs E L s (mrg pt (pt ab.1) (pt ab.2)) else 0) (2 ^ L.length) from rfl, ← sI_mul]
    refine sI_congr fun s _ => ?_
    have h2 : ¬ pt ab.1 = pt ab.2 := fun q => h (Or.inr q)
    have h3 : r ≠ 0 := fun q => h (Or.inl q)
    rw [if_neg h2]
    by_cases hp : popL L.length s = r - 1
    · rw [if_pos hp, if_pos (by omega)]
    · rw [if_neg hp, if_neg (by omega), Int.mul_zero]
theorem cnt_del {P Q : Nat → Bool} {x : Nat} (hP : P x = true) (hQ : Q x = false) (h : ∀ j, j ≠ x → Q j = P j) : ∀ n, cnt P n = cnt Q n + (if x < n then 1 else 0)
  | 0 => rfl
  | n + 1 => by
    show cnt P n + _ = cnt Q n + _ + _
    rw [cnt_del hP hQ h n]
    by_cases hn : n = x
    · subst hn; simp [hP, hQ]
    · rw [h n hn]
      by_cases h2 : x < n
      · have h4 : x < n + 1 := by omega
        simp only [h2, h4, if_true]; omega
      · have h4 : ¬ x < n + 1 := by omega
        simp only [h2, h4, if_false]; omega
theorem det_id : ∀ m, det m (fun i j => if i = j then 1 else 0) = 1
  | 0 => rfl
  | m + 1 => by
    refine (det_delta 0 (by omega) (fun j => ?_)).trans (Eq.trans ?_ (det_id m))
    · by_cases h : j = 0
      · subst h; rfl
      · rw [if_neg h, if_neg (Ne.symm h)]
    refine det_congr fun r k _ _ => ?_
    rw [skp_0, skp_0]
    by_cases h : r = k <;> simp [h]
theorem det_row0 {m i : Nat} (hi : i < m) {A : Nat → Nat → Int} (h : ∀ j, A i j = 0) : det m A = 0 := by
  have e := det_row_lin (m := m) (A := A) (B := A) (C := A) i 0 0 hi (fun j => by rw [h]; simp) (fun _ _ _ => rfl) (fun _ _ _ => rfl)
  omega
/-- the sets that connect all without a ring are as many as the determinant says, whatever the root -/
theorem FT_det {n z : Nat} {E : Nat → Nat → Nat} (hn : n ≤ 6) (hz : z < n) : ∀ (L : List (Nat × Nat)) (pt : Nat → Nat), Lab n pt → (∀ ab ∈ L, ab.1 < n ∧ ab.2 < n) → FT E L pt (cnt (act n z pt) 6) = det 6 (Qm n z E pt L)
  | [], pt, hpt, _ => by
    show 0 + (if popL 0 0 = cnt (act n z pt) 6 then (1 : Int) else 0) = _
    rw [Int.zero_add]
    by_cases hc : cnt (act n z pt) 6 = 0
    · rw [hc, if_pos (show popL 0 0 = 0 from rfl)]
      refine (det_id 6).symm.trans (det_congr fun i j hi _ => ?_)
      have ha : act n z pt i = false := by
        cases h : act n z pt i
        · rfl
        · have := cnt_lt (P := fun _ => false) (Q := act n z pt) (n := 6) i hi rfl h (fun _ _ q => by cases q)
          omega
      unfold Qm
      simp [ha]
    · rw [if_neg (fun q => hc q.symm)]
      have hex : ∃ i, i < 6 ∧ act n z pt i = true := by
        refine Classical.byContradiction fun hno => hc ?_
        have := cnt_mono (P := act n z pt) (Q := fun _ => false) (n := 6) (fun j hj h => absurd ⟨j, hj, h⟩ hno)
        have h0 : cnt (fun _ => false) 6 = 0 := rfl
        omega
      obtain ⟨i, hi, ha⟩ := hex
      exact (det_row0 hi (fun j => by unfold Qm; simp [ha])).symm
  | ab :: L, pt, hpt, hL => by
    have hab := hL ab List.mem_cons_self
    have hL2 : ∀ x ∈ L, x.1 < n ∧ x.2 < n := fun x hx => hL x (List.mem_cons_of_mem _ hx)
    have ih := FT_det (E := E) hn hz L pt hpt hL2
    have hp := hpt ab.1 hab.1
    have hq := hpt ab.2 hab.2
    rw [FT_cons, ih]
    by_cases hpq : pt ab.1 = pt ab.2
    · rw [if_pos (Or.inr hpq), Int.add_zero]
      refine det_congr fun i j _ _ => ?_
      show Qm n z E pt L i j = Qm n z E pt L i j + (E ab.1 ab.2 : Int) * ((bv n z pt (pt ab.1) i - bv n z pt (pt ab.2) i) * _)
      rw [hpq, Int.sub_self, Int.zero_mul, Int.mul_zero, Int.add_zero]
    · by_cases hap : act n z pt (pt ab.1) = true
      · have hx6 : pt ab.1 < 6 := by omega
        have hcd : ∀ pt', (∀ i, i ≠ pt ab.1 → act n z pt' i = act n z pt i) → act n z pt' (pt ab.1) = false → cnt (act n z pt) 6 = cnt (act n z pt') 6 + 1 := fun pt' h1 h2 => by
          have := cnt_del (P := act n z pt) (Q := act n z pt') hap h2 h1 6
          rwa [if_pos hx6] at this
        by_cases haq : act n z pt (pt ab.2) = true
        · have ha := act_mrg hap hpq hq.2
          have h1 := hcd (mrg pt (pt ab.1) (pt ab.2)) (fun i hi => bool_iff ((ha i).trans (by simp [hi]))) (by
            cases h : act n z (mrg pt (pt ab.1) (pt ab.2)) (pt ab.1)
            · rfl
            · exact absurd rfl ((ha _).mp h).2)
          rw [if_neg (by rintro (q | q); omega; exact hpq q)]
          have ih2 := FT_det (E := E) hn hz L (mrg pt (pt ab.1) (pt ab.2)) (lab_mrg hpt hq.1 hq.2 hpq) hL2
          rw [show cnt (act n z pt) 6 - 1 = cnt (act n z (mrg pt (pt ab.1) (pt ab.2))) 6 by omega, ih2, ← det_Qm_ctr hap hpq hq.2 haq L]
          refine (det_R1 (m := 5) (i := pt ab.1) (j := pt ab.2) (Ne.symm hpq) (by omega) (by omega) (E ab.1 ab.2 : Int) fun r c => ?_).symm
          show Qm n z E pt L r c + _ = _
          unfold bv
          simp only [hap, haq, and_true]
        · -- the other is the root's
          have hqz : pt ab.2 = pt z := by
            refine Classical.byContradiction fun hne => haq (act_iff.mpr ⟨hq.1, hq.2, hne⟩)
          have haq0 : act n z pt (pt ab.2) = false := by simpa using haq
          have hpz : pt ab.1 ≠ pt z := (act_iff.mp hap).2.2
          have hz' : mrg pt (pt ab.1) (pt ab.2) z = pt z := by unfold mrg; rw [if_neg (Ne.symm hpz)]
          have ha : ∀ i, i ≠ pt ab.1 → act n z (mrg pt (pt ab.1) (pt ab.2)) i = act n z pt i := fun i hi => bool_iff (by
            rw [act_iff, act_iff, hz']
            unfold mrg
            by_cases h : pt i = pt ab.1
            · rw [if_pos h, h]
              constructor
              · rintro ⟨h1, h2, h3⟩; exact absurd (h2.symm.trans hqz) h3
              · rintro ⟨h1, h2, h3⟩; exact absurd h2.symm hi
            · rw [if_neg h])
          have h0 : act n z (mrg pt (pt ab.1) (pt ab.2)) (pt ab.1) = false := by
            cases h : act n z (mrg pt (pt ab.1) (pt ab.2)) (pt ab.1)
            · rfl
            · have h2 := (act_iff.mp h).2.1
              unfold mrg at h2
              rw [if_pos hp.2] at h2
              exact absurd h2.symm hpq
          have hb : ∀ v i, i ≠ pt ab.1 → bv n z (mrg pt (pt ab.1) (pt ab.2)) (mrg pt (pt ab.1) (pt ab.2) v) i = bv n z pt (pt v) i := fun v i hi => by
            unfold bv
            by_cases h : pt v = pt ab.1
            · have n1 : ¬ (i = pt ab.2 ∧ act n z (mrg pt (pt ab.1) (pt ab.2)) (pt ab.2) = true) := by
                rintro ⟨-, q⟩
                have h3 := (act_iff.mp q).2.2
                rw [hz'] at h3
                exact h3 hqz
              have n2 : ¬ (i = pt ab.1 ∧ act n z pt (pt ab.1) = true) := fun q => hi q.1
              rw [show mrg pt (pt ab.1) (pt ab.2) v = pt ab.2 by unfold mrg; rw [if_pos h], h, if_neg n1, if_neg n2]
            · rw [show mrg pt (pt ab.1) (pt ab.2) v = pt v by unfold mrg; rw [if_neg h]]
              by_cases hiv : i = pt v
              · rw [← hiv, ha i hi]
              · rw [if_neg (fun q => hiv q.1), if_neg (fun q => hiv q.1)]
          have h1 := hcd _ ha h0
          rw [if_neg (by rintro (q | q); omega; exact hpq q)]
          have ih2 := FT_det (E := E) hn hz L (mrg pt (pt ab.1) (pt ab.2)) (lab_mrg hpt hq.1 hq.2 hpq) hL2
          rw [show cnt (act n z pt) 6 - 1 = cnt (act n z (mrg pt (pt ab.1) (pt ab.2))) 6 by omega, ih2, ← det_Qm_rt hb ha h0 L]
          refine (det_R0 (m := 5) (i := pt ab.1) (by omega) (E ab.1 ab.2 : Int) fun r c => ?_).symm
          show Qm n z E pt L r c + _ = _
          unfold bv
          simp only [hap, haq0, and_true, and_false]
          by_cases h3 : r = pt ab.1 <;> by_cases h4 : c = pt ab.1 <;> simp [h3, h4]
      · -- the first is the root's
        have hpz : pt ab.1 = pt z := by
          refine Classical.byContradiction fun hne => hap (act_iff.mpr ⟨hp.1, hp.2, hne⟩)
        have hap0 : act n z pt (pt ab.1) = false := by simpa using hap
        have haq : act n z pt (pt ab.2) = true := act_iff.mpr ⟨hq.1, hq.2, fun q => hpq (hpz.trans q.symm)⟩
        have hz' : mrg pt (pt ab.1) (pt ab.2) z = pt ab.2 := by unfold mrg; rw [if_pos hpz.symm]
        have ha : ∀ i, i ≠ pt ab.2 → act n z (mrg pt (pt ab.1) (pt ab.2)) i = act n z pt i := fun i hi => bool_iff (by
          rw [act_iff, act_iff, hz']
          unfold mrg
          by_cases h : pt i = pt ab.1
          · rw [if_pos h, h]
            constructor
            · rintro ⟨h1, h2, h3⟩; exact absurd h2.symm h3
            · rintro ⟨h1, h2, h3⟩; exact absurd (h2.symm.trans hpz) h3
          · rw [if_neg h]
            constructor
            · rintro ⟨h1, h2, h3⟩; exact ⟨h1, h2, fun q => h (by rw [h2, q, hpz])⟩
            · rintro ⟨h1, h2, h3⟩; exact ⟨h1, h2, hi⟩)
        have h0 : act n z (mrg pt (pt ab.1) (pt ab.2)) (pt ab.2) = false := by
          cases h : act n z (mrg pt (pt ab.1) (pt ab.2)) (pt ab.2)
          · rfl
          · exact absurd hz'.symm (act_iff.mp h).2.2
        have hb : ∀ v i, i ≠ pt ab.2 → bv n z (mrg pt (pt ab.1) (pt ab.2)) (mrg pt (pt ab.1) (pt ab.2) v) i = bv n z pt (pt v) i := fun v i hi => by
          unfold bv
          by_cases h : pt v = pt ab.1
          · rw [show mrg pt (pt ab.1) (pt ab.2) v = pt ab.2 by unfold mrg; rw [if_pos h], h, if_neg (fun q => hi q.1), if_neg]
            rintro ⟨-, q⟩
            exact hap q
          · rw [show mrg pt (pt ab.1) (pt ab.2) v = pt v by unfold mrg; rw [if_neg h]]
            by_cases hiv : i = pt v
            · rw [← hiv, ha i hi]
            · rw [if_neg (fun q => hiv q.1), if_neg (fun q => hiv q.1)]
        have hx6 : pt ab.2 < 6 := by omega
        have h1 := cnt_del (P := act n z pt) (Q := act n z (mrg pt (pt ab.1) (pt ab.2))) haq h0 ha 6
        rw [if_pos hx6] at h1
        rw [if_neg (by rintro (q | q); omega; exact hpq q)]
        have ih2 := FT_det (E := E) hn hz L (mrg pt (pt ab.1) (pt ab.2)) (lab_mrg hpt hq.1 hq.2 hpq) hL2
        rw [show cnt (act n z pt) 6 - 1 = cnt (act n z (mrg pt (pt ab.1) (pt ab.2))) 6 by omega, ih2, ← det_Qm_rt hb ha h0 L]
        refine (det_R0 (m := 5) (i := pt ab.2) (by omega) (E ab.1 ab.2 : Int) fun r c => ?_).symm
        show Qm n z E pt L r c + _ = _
        unfold bv
        simp only [hap0, haq, and_true, and_false]
        by_cases h3 : r = pt ab.2 <;> by_cases h4 : c = pt ab.2 <;> simp [h3, h4]
