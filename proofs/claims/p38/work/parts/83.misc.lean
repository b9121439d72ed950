/-- the two directions settle alike -/
theorem alike_dirs {n : Nat} {E : Nat → Nat → Nat} (hG : Gr n E) (hC : Conn n E) {z : Nat} (hz : z < n) {c : Nat → Nat} (hc : c z = 0) (hT : sumN c 6 ≤ 66000) {f : Nat → Int32} (hf : ∀ j, j < 6 → f j = nI (c j)) :
    (stA n z (fjE E) (fdE E) (fun i9 => i9) mR (f, (fun _ => 0), 0, 0)).2.2.2 = (stA n z (fjE E) (fdE E) (fun i9 => n - 1 - i9) mR (f, (fun _ => 0), 0, 0)).2.2.2 ∧
    pLike (stA n z (fjE E) (fdE E) (fun i9 => i9) mR (f, (fun _ => 0), 0, 0)).1 (stA n z (fjE E) (fdE E) (fun i9 => n - 1 - i9) mR (f, (fun _ => 0), 0, 0)).1 (stA n z (fjE E) (fdE E) (fun i9 => i9) mR (f, (fun _ => 0), 0, 0)).2.1 (stA n z (fjE E) (fdE E) (fun i9 => n - 1 - i9) mR (f, (fun _ => 0), 0, 0)).2.1 (stA n z (fjE E) (fdE E) (fun i9 => i9) mR (f, (fun _ => 0), 0, 0)).2.2.1 (stA n z (fjE E) (fdE E) (fun i9 => n - 1 - i9) mR (f, (fun _ => 0), 0, 0)).2.2.1 = true := by
  have hn := hG.1
  obtain ⟨g1, k1, ⟨a1, a2, a3, a4⟩, l1, s1⟩ := settle_cls hG hC hz ord_lo.1 ord_lo.2 hc hT (f := f) (ct := fun _ => 0) (tk := 0) hf
  obtain ⟨g2, k2, ⟨b1, b2, b3, b4⟩, l2, s2⟩ := settle_cls hG hC hz ord_hi.1 ord_hi.2 hc hT (f := f) (ct := fun _ => 0) (tk := 0) hf
  obtain ⟨ek, eg⟩ := leg_same l1 s1 l2 s2
  refine ⟨by rw [a4, b4, sumN_eq ek], ?_⟩
  unfold pLike
  rw [rLike_iff.mpr (fun j hj => by rw [a1 j hj, b1 j hj, eg j hj]), rLike_iff.mpr (fun j hj => by rw [a2 j hj, b2 j hj, ek j hj]), decide_eq_true (by rw [a3, b3, eg z (by omega)])]
  rfl
/-- calm vertices, counted on both sides -/
theorem stN_sum {z : Nat} {fd f : Nat → Int32} : ∀ m, stN z fd f m = sumN (fun i => if cTop z fd f (skp z i) = true then 0 else 1) m
  | 0 => rfl
  | m + 1 => by
    show (if cTop z fd f (skp z m) = true then stN z fd f m else stN z fd f m + 1) = sumN _ m + (if cTop z fd f (skp z m) = true then 0 else 1)
    rw [stN_sum m]
    split <;> omega
theorem tcA_sum {E : Nat → Nat → Nat} {z : Nat} {f : Nat → Int32} : ∀ m, tcA E z f m = sumN (fun v => if ¬ v = z ∧ (dg E v = 0 ∨ f v < nI (dg E v)) then 1 else 0) m
  | 0 => rfl
  | m + 1 => by
    show (if ¬ m = z ∧ (dg E m = 0 ∨ f m < nI (dg E m)) then tcA E z f m + 1 else tcA E z f m) = sumN _ m + (if ¬ m = z ∧ (dg E m = 0 ∨ f m < nI (dg E m)) then 1 else 0)
    rw [tcA_sum m]
    split <;> omega
theorem calm_eq {n : Nat} {E : Nat → Nat → Nat} (hG : Gr n E) {z : Nat} (hz : z < n) {c : Nat → Nat} (hb : ∀ j, j < 6 → c j < 2 ^ 30) : stN z (fdE E) (nF c) (n - 1) = tcA E z (nF c) n := by
  have hn := hG.1
  obtain ⟨m, rfl⟩ : ∃ m, n = m + 1 := ⟨n - 1, by omega⟩
  rw [stN_sum, tcA_sum, sumN_skp hz, Nat.add_sub_cancel, if_neg (fun q => q.1 rfl), Nat.add_zero]
  refine sumN_eq fun i hi => ?_
  have hne : skp z i ≠ z := by unfold skp; split <;> omega
  have h6 : skp z i < 6 := by unfold skp; split <;> omega
  have hd := dg_le hG (skp z i)
  have hg := hb _ h6
  have h1 := cTop_iff hG.2.2.2.2 (z := z) (v := skp z i) (g := c (skp z i)) (f := nF c) rfl (by omega)
  have h2 : nF c (skp z i) < nI (dg E (skp z i)) ↔ c (skp z i) < dg E (skp z i) := nI_ltI (by omega) (by omega)
  by_cases h : cTop z (fdE E) (nF c) (skp z i) = true
  · have h3 := h1.mp h
    rw [if_pos h, if_neg (fun q => q.2.elim (fun r => by omega) (fun r => by have := h2.mp r; omega))]
  · rw [if_neg h]
    by_cases h3 : dg E (skp z i) = 0
    · rw [if_pos ⟨hne, Or.inl h3⟩]
    · rw [if_pos ⟨hne, Or.inr (h2.mpr (Nat.lt_of_not_le fun q => h (h1.mpr ⟨hne, by omega, q⟩)))⟩]
theorem rSum_nF {c : Nat → Nat} : ∀ m, rSum (nF c) m = nI (sumN c m)
  | 0 => rfl
  | m + 1 => by
    show rSum (nF c) m + nI (c m) = nI (sumN c m + c m)
    rw [rSum_nF m, nI_add]
theorem tsS_nF {c : Nat → Nat} {z : Nat} (hc : c z = 0) : ∀ m, tsS z (nF c) m = nI (sumN c m)
  | 0 => rfl
  | m + 1 => by
    show tsS z (nF c) m + (if m = z then 0 else nI (c m)) = nI (sumN c m + c m)
    rw [tsS_nF hc m]
    by_cases h : m = z
    · rw [if_pos h, h, hc, Int32.add_zero, Nat.add_zero]
    · rw [if_neg h, nI_add]
theorem sum_eq {n : Nat} (hn : n ≤ 6) {c : Nat → Nat} {z : Nat} (hc : c z = 0) (hco : ∀ j, n ≤ j → c j = 0) : rSum (nF c) 6 = nI (sumN c 6) ∧ tsS z (nF c) n = nI (sumN c 6) :=
  ⟨rSum_nF 6, by rw [tsS_nF hc, sumN_cut6 hn (fun j hj _ => hco j hj)]⟩
/-- a deal -/
def dlN (E : Nat → Nat → Nat) (v : Nat) (x : Int) (d : Nat → Int) : Nat → Int := fun j => d j + x * (if j = v then - (dg E v : Int) else (E v j : Int))
def dlX (E : Nat → Nat → Nat) (v : Nat) (t : Int32) (fo : Nat → Int32) : Nat → Int32 := fun j => fo j + t * (if j = v then - nI (dg E v) else nI (E v j))
theorem adI_at {E : Nat → Nat → Nat} {fo : Nat → Int32} {u v : Nat} {t : Int32} (hu : u < 6) : adI (fjE E) (fdE E) fo u v t = dlX E v t fo u := by
  show fo u + t * (if u = v then - nI (dg E u) else fjE E (v * 6 + u)) = fo u + t * (if u = v then - nI (dg E v) else nI (E v u))
  by_cases h : u = v
  · rw [if_pos h, if_pos h, h]
  · rw [if_neg h, if_neg h, fjE_at E hu]
theorem dlF_at {E : Nat → Nat → Nat} {fo : Nat → Int32} {v : Nat} {t : Int32} : ∀ m, m ≤ 6 → ∀ j, dlF (fjE E) (fdE E) v t fo m j = if j < m then dlX E v t fo j else fo j
  | 0, _, j => by rw [if_neg (Nat.not_lt_zero _)]; rfl
  | m + 1, hm, j => by
    have ih := dlF_at (E := E) (fo := fo) (v := v) (t := t) m (by omega)
    show upd (dlF (fjE E) (fdE E) v t fo m) m (adI (fjE E) (fdE E) (dlF (fjE E) (fdE E) v t fo m) m v t) j = _
    by_cases hj : j = m
    · subst hj
      rw [upd_s, if_pos (by omega), adI_at (by omega)]
      show dlF (fjE E) (fdE E) v t fo j j + _ = fo j + _
      rw [ih j, if_neg (Nat.lt_irrefl _)]
    · rw [upd_n _ _ hj, ih j]
      by_cases h : j < m
      · rw [if_pos h, if_pos (by omega)]
      · rw [if_neg h, if_neg (by omega)]
theorem ddF_at {E : Nat → Nat → Nat} {fo : Nat → Int32} {v : Nat} {t : Int32} : ∀ m j, ddF E v t fo m j = (if j = v then fo v - t * nI (dg E v) else fo j) + (if j < m then t * nI (E v j) else 0)
  | 0, j => by
    rw [if_neg (Nat.not_lt_zero _), Int32.add_zero]
    show upd fo v (fo v - t * nI (dg E v)) j = _
    by_cases h : j = v
    · subst h; rw [upd_s, if_pos rfl]
    · rw [upd_n _ _ h, if_neg h]
  | m + 1, j => by
    have ih := ddF_at (E := E) (fo := fo) (v := v) (t := t) m
    show upd (ddF E v t fo m) m (ddF E v t fo m m + t * EN E v m) j = _
    by_cases hj : j = m
    · subst hj
      rw [upd_s, ih j, if_neg (Nat.lt_irrefl _), Int32.add_zero, if_pos (show j < j + 1 by omega)]
      rfl
    · rw [upd_n _ _ hj, ih j]
      by_cases h : j < m
      · rw [if_pos h, if_pos (show j < m + 1 by omega)]
      · rw [if_neg h, if_neg (show ¬ j < m + 1 by omega)]
theorem deal_at {n : Nat} {E : Nat → Nat → Nat} (hG : Gr n E) {v : Nat} (hv : v < n) {t : Int32} {fo : Nat → Int32} {j : Nat} (hj : j < 6) : dlF (fjE E) (fdE E) v t fo n j = dlX E v t fo j ∧ ddF E v t fo 6 j = dlX E v t fo j := by
  have hn := hG.1
  constructor
  · rw [dlF_at n hn j]
    by_cases h : j < n
    · rw [if_pos h]
    · rw [if_neg h]
      show fo j = fo j + t * (if j = v then _ else nI (E v j))
      rw [if_neg (by omega), hG.2.1 v j, hG.2.2.2.1 j v (by omega), nI_0, Int32.mul_zero, Int32.add_zero]
  · rw [ddF_at 6 j, if_pos hj]
    show _ = fo j + t * (if j = v then - nI (dg E v) else nI (E v j))
    by_cases h : j = v
    · subst h
      rw [if_pos rfl, if_pos rfl, hG.2.2.1 j, nI_0, Int32.mul_zero, Int32.add_zero, Int32.mul_neg, Int32.sub_eq_add_neg]
    · rw [if_neg h, if_neg h]
theorem dlX_iF {E : Nat → Nat → Nat} {v : Nat} {x : Int} {d : Nat → Int} (j : Nat) : dlX E v (iI x) (iF d) j = iF (dlN E v x d) j := by
  show iI (d j) + iI x * (if j = v then - nI (dg E v) else nI (E v j)) = iI (d j + x * (if j = v then - (dg E v : Int) else (E v j : Int)))
  rw [← iI_add, ← iI_mul]
  by_cases h : j = v
  · rw [if_pos h, if_pos h, ← iI_neg, iI_n]
  · rw [if_neg h, if_neg h, iI_n]
theorem dlN_bd {n : Nat} {E : Nat → Nat → Nat} (hG : Gr n E) {v : Nat} {x B : Int} (hx : x = 1 ∨ x = -1) {d : Nat → Int} (hd : ∀ j, -B ≤ d j ∧ d j ≤ B) (j : Nat) : -(B + 15) ≤ dlN E v x d j ∧ dlN E v x d j ≤ B + 15 := by
  have h1 := dg_le hG v
  have h2 := hG.2.2.2.2 v j
  have h3 := hd j
  unfold dlN
  rcases hx with rfl | rfl <;> split <;> omega
theorem deal_ok {n : Nat} {E : Nat → Nat → Nat} (hG : Gr n E) {v : Nat} {x B : Int} (hx : x = 1 ∨ x = -1) {d : Nat → Int} (hB : B ≤ 9000) (hd : ∀ j, -B ≤ d j ∧ d j ≤ B) (u : Nat) (hu : u < n) : ¬ 9999 < adI (fjE E) (fdE E) (iF d) u v (iI x) ∧ ¬ adI (fjE E) (fdE E) (iF d) u v (iI x) < -9999 := by
  have hn := hG.1
  obtain ⟨h1, h2⟩ := dlN_bd hG (v := v) hx hd u
  rw [adI_at (by omega), dlX_iF]
  constructor
  · intro q
    rw [show (9999 : Int32) = iI 9999 by decide] at q
    have := (iI_lt (x := 9999) (y := dlN E v x d u) (by omega) (by omega) (by omega) (by omega)).mp q
    omega
  · intro q
    rw [show (-9999 : Int32) = iI (-9999) by decide] at q
    have := (iI_lt (x := dlN E v x d u) (y := -9999) (by omega) (by omega) (by omega) (by omega)).mp q
    omega
/-- the figures that are divided -/
theorem num_f : (List.range 7).all (fun m => (List.range 7).all fun d => decide (d < 2) || (decide ((FP.fdiv (FP.i2f (nI m)) (FP.i2f (nI d))) &&& 0x7fffffff ≤ 0x7f800000) && decide (Op.cmpValue (FP.fcmp (FP.fdiv (FP.i2f (nI m)) (FP.i2f (nI d))) (FP.fdiv (FP.i2f (nI m)) (FP.i2f (nI d)))) .l = 0))) = true := by decide +kernel
theorem num_share {m d : Nat} (hm : m < 7) (hd : d < 7) (h2 : 2 ≤ d) : vf_n32 (FP.fdiv (FP.i2f (nI m)) (FP.i2f (nI d))) ∧ Op.cmpValue (FP.fcmp (FP.fdiv (FP.i2f (nI m)) (FP.i2f (nI d))) (FP.fdiv (FP.i2f (nI m)) (FP.i2f (nI d)))) .l = 0 := by
  have h := List.all_eq_true.mp (List.all_eq_true.mp num_f m (List.mem_range.mpr hm)) d (List.mem_range.mpr hd)
  rw [decide_eq_false (show ¬ d < 2 by omega), Bool.false_or, Bool.and_eq_true, decide_eq_true_eq, decide_eq_true_eq] at h
  exact h
theorem num_d : (List.range 1500).all (fun m => (List.range 7).all fun d => decide (d < 2) || (decide ((FP.ddiv (FP.i2d (nI m)) (FP.i2d (nI d))) &&& 0x7fffffffffffffff ≤ 0x7ff0000000000000) && decide (Op.cmpValue (FP.dcmp (FP.ddiv (FP.i2d (nI m)) (FP.i2d (nI d))) (FP.ddiv (FP.i2d (nI m)) (FP.i2d (nI d)))) .l = 0))) = true := by decide +kernel
theorem num_mean {m d : Nat} (hm : m < 1500) (hd : d < 7) (h2 : 2 ≤ d) : vf_n64 (FP.ddiv (FP.i2d (nI m)) (FP.i2d (nI d))) ∧ Op.cmpValue (FP.dcmp (FP.ddiv (FP.i2d (nI m)) (FP.i2d (nI d))) (FP.ddiv (FP.i2d (nI m)) (FP.i2d (nI d)))) .l = 0 := by
  have h := List.all_eq_true.mp (List.all_eq_true.mp num_d m (List.mem_range.mpr hm)) d (List.mem_range.mpr hd)
  rw [decide_eq_false (show ¬ d < 2 by omega), Bool.false_or, Bool.and_eq_true, decide_eq_true_eq, decide_eq_true_eq] at h
  exact h
