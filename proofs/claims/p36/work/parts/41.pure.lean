/-- two vertices, one edge, the sink 0; so many times 200 chips on vertex 1 -/
def FJ : Nat → Int32 := jnJ (fun _ => 0) 0 1 (nI 1)
def FD : Nat → Int32 := jnD (fun _ => 0) (fun _ => 0) 0 1 (nI 1)
def FP (q : Nat) : Nat → Int32 := fun j => if j = 1 then nI (200 * q) else 0
def MZ : Nat → Nat → Int32 := fun _ _ => 0
def M2 : Nat → Nat → Int32 := eU (eU MZ 0 1 (nI 1)) 1 0 (nI 1)
def cW (i : Nat) : Nat → Int32 := fun j => if j = 1 then nI (2000 - i) else 0
def cR (i : Nat) : Nat → Int32 := fun j => if j = 1 then nI (2000 - i) else if j = 0 then nI i else 0
theorem FP_0 : FP 0 = fun _ => 0 := by
  funext j
  unfold FP
  split <;> rfl
theorem FP_s (q : Nat) : upd (FP q) 1 (FP q 1 + nI 200) = FP (q + 1) := by
  funext j
  by_cases h : j = 1
  · subst h
    rw [upd_s]
    show nI (200 * q) + nI 200 = nI (200 * (q + 1))
    rw [nI_add]
    rfl
  · rw [upd_n _ _ h]
    simp [FP, h]
theorem fd1 : FD 1 = 1 := by decide +kernel
theorem fj7 : FJ 7 = 0 := by decide +kernel
theorem nI_lt1 {k : Nat} (hk : k < 2000) : ¬ nI (k + 1) < (1 : Int32) := nI_nlt (a := k + 1) (b := 1) (by omega) (by omega)
theorem nI_m1 (k : Nat) : nI (k + 1) + (-1) * 1 + 1 * 0 = nI k := by
  rw [show ((-1 : Int32) * 1) = -1 from by decide, show ((1 : Int32) * 0) = 0 from by decide, pk_m1, Int32.add_zero]
theorem top1 {f : Nat → Int32} (h : ¬ f 1 < 1) : cTop 0 FD f 1 = true := by
  simp [cTop, fd1, h]
theorem top1f {f : Nat → Int32} (h : f 1 < 1) : cTop 0 FD f 1 = false := by
  simp [cTop, fd1, h]
theorem top0 (f : Nat → Int32) : cTop 0 FD f 0 = false := by simp [cTop]
theorem msk {f : Nat → Int32} (h : ¬ f 1 < 1) : wvM 0 FD f 2 = 2 := by
  simp only [wvM, top1 h, top0]
  decide
theorem msk0 {f : Nat → Int32} (h : f 1 < 1) : wvM 0 FD f 2 = 0 := by
  simp only [wvM, top1f h, top0]
  decide
theorem one_wave (S : (Nat → Int32) × (Nat → Int32) × Int32) (k : Nat) (h1 : S.1 1 = nI (k + 1)) (j : Nat) : (wvS 2 0 FJ FD 2 S 2).1 j = if j = 1 then nI k else S.1 j := by
  have b0 : ¬ (((2 : Int32) >>> (nI 0 &&& 31)) &&& 1) = 1 := by decide
  have b1 : (((2 : Int32) >>> (nI 1 &&& 31)) &&& 1) = 1 := by decide
  have e1 : wvS 2 0 FJ FD 2 S 1 = S := by
    show (if ((2 : Int32) >>> (nI 0 &&& 31)) &&& 1 = 1 then _ else wvS 2 0 FJ FD 2 S 0) = S
    rw [if_neg b0]
    rfl
  have e2 : (wvS 2 0 FJ FD 2 S 2).1 = tpF 0 FJ 1 1 (upd S.1 1 (S.1 1 + (-1) * FD 1)) 2 := by
    show (if ((2 : Int32) >>> (nI 1 &&& 31)) &&& 1 = 1 then _ else _ : (Nat → Int32) × (Nat → Int32) × Int32).1 = _
    rw [if_pos b1, e1]
  rw [e2]
  simp only [tpF, if_pos, if_neg (show ¬ (1 : Nat) = 0 by decide), fd1, h1]
  by_cases h : j = 1
  · subst h
    rw [upd_s, upd_s, if_pos rfl, fj7]
    exact nI_m1 k
  · rw [upd_n _ _ h, upd_n _ _ h, if_neg h]
theorem cW_10 : FP 10 = cW 0 := rfl
theorem wave_it : ∀ i, i ≤ 2000 → (wvI 2 0 FJ FD (FP 10) i).1 = cW i := by
  intro i
  induction i with
  | zero => intro _; exact cW_10
  | succ i ih =>
    intro hi
    have hI := ih (by omega)
    have h1 : (wvI 2 0 FJ FD (FP 10) i).1 1 = nI ((1999 - i) + 1) := by
      rw [hI]
      show nI (2000 - i) = _
      rw [show 2000 - i = 1999 - i + 1 by omega]
    funext j
    show (wvS 2 0 FJ FD (wvM 0 FD (wvI 2 0 FJ FD (FP 10) i).1 2) (wvI 2 0 FJ FD (FP 10) i) 2).1 j = _
    rw [msk (by rw [h1]; exact nI_lt1 (by omega)), one_wave _ _ h1 j, hI]
    unfold cW
    by_cases h : j = 1
    · rw [if_pos h, if_pos h, show 2000 - (i + 1) = 1999 - i by omega]
    · rw [if_neg h, if_neg h, if_neg h]
theorem wave_go (i : Nat) (hi : i < 2000) : ¬ wvM 0 FD (wvI 2 0 FJ FD (FP 10) i).1 2 = 0 := by
  rw [wave_it i (by omega), msk (by
    show ¬ nI (2000 - i) < 1
    rw [show 2000 - i = 1999 - i + 1 by omega]
    exact nI_lt1 (by omega))]
  decide
theorem wave_end : wvM 0 FD (wvI 2 0 FJ FD (FP 10) 2000).1 2 = 0 := by
  rw [wave_it 2000 (by omega), msk0 (by decide)]
theorem gc2 : gConn FJ 2 = true := by decide +kernel
-- the reference's waves
theorem dg1 : rSum (M2 1) 6 = 1 := by decide +kernel
theorem m10 : M2 1 0 = 1 := by decide +kernel
theorem m11 : M2 1 1 = 0 := by decide +kernel
theorem can1 {f : Nat → Int32} (h : ¬ f 1 < 1) : rCan 0 M2 f 1 = true := by simp [rCan, dg1, h]
theorem can1f {f : Nat → Int32} (h : f 1 < 1) : rCan 0 M2 f 1 = false := by simp [rCan, dg1, h]
theorem can0 (f : Nat → Int32) : rCan 0 M2 f 0 = false := by simp [rCan]
theorem rmsk {f : Nat → Int32} (h : ¬ f 1 < 1) : rwM 0 M2 f 2 = 1 := by
  simp only [rwM, rwA, can1 h, can0]
  decide
theorem rmsk0 {f : Nat → Int32} (h : f 1 < 1) : rwM 0 M2 f 2 = 0 := by
  simp only [rwM, rwA, can1f h, can0]
  decide
theorem rall {f : Nat → Int32} (h : ¬ f 1 < 1) : rwA 0 M2 f 2 0 = 0 ∧ rwA 0 M2 f 2 1 = 1 := by
  simp only [rwA, can1 h, can0]
  decide
theorem one_rwave {f : Nat → Int32} (i k : Nat) (h0 : f 0 = nI i) (h1 : f 1 = nI (k + 1)) (hk : k < 2000) (j : Nat) : rwS 2 M2 f (rwA 0 M2 f 2) 2 j = if j = 1 then nI k else if j = 0 then nI (i + 1) else f j := by
  have hc : ¬ f 1 < 1 := by rw [h1]; exact nI_lt1 hk
  obtain ⟨a0, a1⟩ := rall hc
  have a2 : ¬ rwA 0 M2 f 2 1 = 0 := by rw [a1]; decide
  have e : rwS 2 M2 f (rwA 0 M2 f 2) 2 = rTp M2 1 1 f 2 := by
    show (if rwA 0 M2 f 2 1 = 0 then _ else rTp M2 1 1 (if rwA 0 M2 f 2 0 = 0 then f else _) 2) = _
    rw [if_neg a2, if_pos a0]
  rw [e]
  show upd (upd (upd f 1 (f 1 - 1 * rSum (M2 1) 6)) 0 (upd f 1 (f 1 - 1 * rSum (M2 1) 6) 0 + 1 * M2 1 0)) 1 (upd (upd f 1 (f 1 - 1 * rSum (M2 1) 6)) 0 (upd f 1 (f 1 - 1 * rSum (M2 1) 6) 0 + 1 * M2 1 0) 1 + 1 * M2 1 1) j = _
  rw [dg1, m10, m11, h1]
  by_cases hj : j = 1
  · subst hj
    rw [upd_s, upd_n _ _ (show ¬ (1 : Nat) = 0 by decide), upd_s, if_pos rfl, show ((1 : Int32) * 1) = 1 from by decide, show ((1 : Int32) * 0) = 0 from by decide, Int32.add_zero, nI_pred]
  · rw [upd_n _ _ hj, if_neg hj]
    by_cases hj0 : j = 0
    · subst hj0
      rw [upd_s, upd_n _ _ (show ¬ (0 : Nat) = 1 by decide), if_pos rfl, h0, show ((1 : Int32) * 1) = 1 from by decide, nI_1]
    · rw [upd_n _ _ hj0, upd_n _ _ hj, if_neg hj0]
theorem cR_10 : FP 10 = cR 0 := by
  funext j
  unfold FP cR
  by_cases h : j = 1
  · rw [if_pos h, if_pos h]
  · rw [if_neg h, if_neg h]
    split <;> rfl
theorem rwave_it : ∀ i, i ≤ 2000 → rwI 2 0 M2 (FP 10) i = cR i := by
  intro i
  induction i with
  | zero => intro _; exact cR_10
  | succ i ih =>
    intro hi
    have hI := ih (by omega)
    have h0 : rwI 2 0 M2 (FP 10) i 0 = nI i := by rw [hI]; rfl
    have h1 : rwI 2 0 M2 (FP 10) i 1 = nI ((1999 - i) + 1) := by
      rw [hI]
      show nI (2000 - i) = _
      rw [show 2000 - i = 1999 - i + 1 by omega]
    funext j
    show rwS 2 M2 (rwI 2 0 M2 (FP 10) i) (rwA 0 M2 (rwI 2 0 M2 (FP 10) i) 2) 2 j = _
    rw [one_rwave i _ h0 h1 (by omega) j, hI]
    unfold cR
    by_cases h : j = 1
    · rw [if_pos h, if_pos h, show 2000 - (i + 1) = 1999 - i by omega]
    · rw [if_neg h, if_neg h, if_neg h]
      by_cases h2 : j = 0
      · rw [if_pos h2, if_pos h2]
      · rw [if_neg h2, if_neg h2, if_neg h2]
theorem rwave_go (i : Nat) (hi : i < 2000) : ¬ rwM 0 M2 (rwI 2 0 M2 (FP 10) i) 2 = 0 := by
  rw [rwave_it i (by omega), rmsk (by
    show ¬ nI (2000 - i) < 1
    rw [show 2000 - i = 1999 - i + 1 by omega]
    exact nI_lt1 (by omega))]
  decide
theorem rwave_end : rwM 0 M2 (rwI 2 0 M2 (FP 10) 2000) 2 = 0 := by
  rw [rwave_it 2000 (by omega), rmsk0 (by decide)]
/-- the script: two vertices, an edge, ten times 200 chips, then waves alone -/
def scr (j : Nat) : Int32 := if j = 8 ∨ j = 10 ∨ j = 11 then 1 else if j < 12 then 0 else if j < 52 then (if j % 4 = 0 then 5 else if j % 4 = 1 then 1 else if j % 4 = 2 then 200 else 0) else if j % 4 = 0 then 9 else 0
theorem scr_w (u : Nat) : scr (52 + 4 * u) = 9 := by
  have h1 : ¬ (52 + 4 * u = 8 ∨ 52 + 4 * u = 10 ∨ 52 + 4 * u = 11) := by omega
  have h2 : ¬ 52 + 4 * u < 12 := by omega
  have h3 : ¬ 52 + 4 * u < 52 := by omega
  have h4 : (52 + 4 * u) % 4 = 0 := by omega
  simp [scr, h1, h2, h3, h4]
theorem scr_p (q : Nat) (hq : q < 10) : scr (12 + 4 * q) = 5 ∧ scr (12 + 4 * q + 1) = nI 1 ∧ scr (12 + 4 * q + 2) = nI 200 := by
  refine ⟨?_, ?_, ?_⟩
  · have h1 : ¬ (12 + 4 * q = 8 ∨ 12 + 4 * q = 10 ∨ 12 + 4 * q = 11) := by omega
    have h2 : ¬ 12 + 4 * q < 12 := by omega
    have h3 : 12 + 4 * q < 52 := by omega
    have h4 : (12 + 4 * q) % 4 = 0 := by omega
    simp [scr, h1, h2, h3, h4]
  · have h1 : ¬ (12 + 4 * q + 1 = 8 ∨ 12 + 4 * q + 1 = 10 ∨ 12 + 4 * q + 1 = 11) := by omega
    have h2 : ¬ 12 + 4 * q + 1 < 12 := by omega
    have h3 : 12 + 4 * q + 1 < 52 := by omega
    have h4 : ¬ (12 + 4 * q + 1) % 4 = 0 := by omega
    have h5 : (12 + 4 * q + 1) % 4 = 1 := by omega
    rw [scr, if_neg h1, if_neg h2, if_pos h3, if_neg h4, if_pos h5]
    rfl
  · have h1 : ¬ (12 + 4 * q + 2 = 8 ∨ 12 + 4 * q + 2 = 10 ∨ 12 + 4 * q + 2 = 11) := by omega
    have h2 : ¬ 12 + 4 * q + 2 < 12 := by omega
    have h3 : 12 + 4 * q + 2 < 52 := by omega
    have h4 : ¬ (12 + 4 * q + 2) % 4 = 0 := by omega
    have h5 : ¬ (12 + 4 * q + 2) % 4 = 1 := by omega
    have h6 : (12 + 4 * q + 2) % 4 = 2 := by omega
    rw [scr, if_neg h1, if_neg h2, if_pos h3, if_neg h4, if_neg h5, if_pos h6]
    rfl
theorem put_le (q : Nat) (hq : q < 10) : FP q 1 + nI 200 ≤ 2000 := by
  show nI (200 * q) + nI 200 ≤ nI 2000
  rw [nI_add]
  exact nI_le (by omega) (by omega)
