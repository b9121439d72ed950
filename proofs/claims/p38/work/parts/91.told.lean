/-! ALL FIGURES: what isTold asks, of the canonical state -/
theorem told_base {n : Nat} {E : Nat → Nat → Nat} (hG : Gr n E) (h3 : 3 ≤ n) {z : Nat} (hz : z < n) {c t : Nat → Nat} {d : Nat → Int} (hc : c z = 0) (hco : ∀ j, n ≤ j → c j = 0) (hT : sumN c 6 < 1500) (ht : ∀ v, t v < 2 ^ 30) (hd : ∀ v, -600 ≤ d v ∧ d v ≤ 600) (hd0 : ∀ v, n ≤ v → d v = 0) {f5 : Nat → Int32} (h5 : ∀ v, v < 6 → f5 v = 0) (q9 : Nat → Int32) :
    (∀ v, v < n → (fdE E) v = nI (dg E v)) ∧
    ((nF c) z = 0) ∧
    (∀ v, v < n → ¬ v = z → 0 < dg E v → endN (fjE E) n z v ((fun v9 => nI (t v9 % dg E v9)) v) = ptE E v (t v % dg E v)) ∧
    (∀ v, t v < 2 ^ 30) ∧
    (∀ v, v < n → brnI n z (fjE E) (nF c) (n - 1) v = (blP E n z (nF c) 6) v) := by
  have hn := hG.1
  refine ⟨fun v _ => rfl, by show nI (c z) = 0; rw [hc]; rfl, fun v hv _ h0 => endN_pt hG (Nat.mod_lt _ h0), ht, fun v hv => ?_⟩
  obtain ⟨e1, e2⟩ := fire_eq hG hz (f := nF c) (g := c) (fun _ _ _ => rfl) (fun v hv => by have := sumN_ge1 (f := c) (n := 6) v (by omega); omega) hv
  rw [e1, e2]
theorem told_num {n : Nat} {E : Nat → Nat → Nat} (hG : Gr n E) (h3 : 3 ≤ n) {z : Nat} (hz : z < n) {c t : Nat → Nat} {d : Nat → Int} (hc : c z = 0) (hco : ∀ j, n ≤ j → c j = 0) (hT : sumN c 6 < 1500) (ht : ∀ v, t v < 2 ^ 30) (hd : ∀ v, -600 ≤ d v ∧ d v ≤ 600) (hd0 : ∀ v, n ≤ v → d v = 0) {f5 : Nat → Int32} (h5 : ∀ v, v < 6 → f5 v = 0) (q9 : Nat → Int32) :
    (vf_n32 (FP.fdiv (FP.i2f (nI (stN z (fdE E) (nF c) (n - 1)))) (FP.i2f (nI (n - 1))))) ∧
    (vf_n32 (FP.fdiv (FP.i2f (nI (tcA E z (nF c) n))) (FP.i2f (nI (n - 1))))) ∧
    (vf_n64 (FP.ddiv (FP.i2d (rSum (nF c) 6)) (FP.i2d (nI (n - 1))))) ∧
    (vf_n64 (FP.ddiv (FP.i2d (tsS z (nF c) n)) (FP.i2d (nI (n - 1))))) ∧
    (Op.cmpValue (FP.fcmp (FP.fdiv (FP.i2f (nI (stN z (fdE E) (nF c) (n - 1)))) (FP.i2f (nI (n - 1)))) (FP.fdiv (FP.i2f (nI (tcA E z (nF c) n))) (FP.i2f (nI (n - 1))))) .l = 0) ∧
    (Op.cmpValue (FP.dcmp (FP.ddiv (FP.i2d (rSum (nF c) 6)) (FP.i2d (nI (n - 1)))) (FP.ddiv (FP.i2d (tsS z (nF c) n)) (FP.i2d (nI (n - 1))))) .l = 0) := by
  have hn := hG.1
  have hle : stN z (fdE E) (nF c) (n - 1) < 7 := by
    have : ∀ m, stN z (fdE E) (nF c) m ≤ m := by
      intro m
      induction m with
      | zero => exact Nat.le_refl _
      | succ m ih =>
        show (if cTop z (fdE E) (nF c) (skp z m) = true then stN z (fdE E) (nF c) m else stN z (fdE E) (nF c) m + 1) ≤ m + 1
        split <;> omega
    have := this (n - 1)
    omega
  have hs := calm_eq hG hz (c := c) (fun j hj => by have := sumN_ge1 (f := c) (n := 6) j hj; omega)
  obtain ⟨r1, r2⟩ := sum_eq hn hc hco
  obtain ⟨a1, a2⟩ := num_share hle (show n - 1 < 7 by omega) (by omega)
  obtain ⟨b1, b2⟩ := num_mean hT (show n - 1 < 7 by omega) (by omega)
  rw [← hs, r1, r2]
  exact ⟨a1, a1, b1, b1, a2, b2⟩
theorem told_whole {n : Nat} {E : Nat → Nat → Nat} (hG : Gr n E) (h3 : 3 ≤ n) {z : Nat} (hz : z < n) {c t : Nat → Nat} {d : Nat → Int} (hc : c z = 0) (hco : ∀ j, n ≤ j → c j = 0) (hT : sumN c 6 < 1500) (ht : ∀ v, t v < 2 ^ 30) (hd : ∀ v, -600 ≤ d v ∧ d v ≤ 600) (hd0 : ∀ v, n ≤ v → d v = 0) {f5 : Nat → Int32} (h5 : ∀ v, v < 6 → f5 v = 0) (q9 : Nat → Int32) (hC : Conn n E) : ∃ (NF F : Nat) (FK : Nat → Int64) (rv : Nat → Int32), F = 210000 ∧
    (gConn (fjE E) n = true) ∧
    (lwV E n z = true) ∧
    (∀ q, (ffS (fjE E) (fdE E) n z q (n - 1)).2.1 = NF) ∧
    (NF ≤ 6) ∧
    (∀ q a, a < NF → ((ffS (fjE E) (fdE E) n z q (n - 1)).2.2 a).toInt64 = FK a) ∧
    (∀ a, a < NF → ¬ FK a < 2) ∧
    (∀ a, a < NF → ¬ bfL FK a = 0) ∧
    (∀ a, a < NF → FK a - FK a / bfL FK a * bfL FK a = 0) ∧
    (prL FK NF = (if n = 1 then 1 else ttV E n)) ∧
    (¬ (odV (fjE E) (fdE E) n z (nF c) (mnV (fjE E) (fdE E) n z ((1 <<< (nI (n - 1) &&& 31)) - 1) ((1 <<< (nI (n - 1) &&& 31)) - 1))) = 0) ∧
    (bfL FK NF - bfL FK NF / (odV (fjE E) (fdE E) n z (nF c) (mnV (fjE E) (fdE E) n z ((1 <<< (nI (n - 1) &&& 31)) - 1) ((1 <<< (nI (n - 1) &&& 31)) - 1))) * (odV (fjE E) (fdE E) n z (nF c) (mnV (fjE E) (fdE E) n z ((1 <<< (nI (n - 1) &&& 31)) - 1) ((1 <<< (nI (n - 1) &&& 31)) - 1))) = 0) ∧
    ((mnV (fjE E) (fdE E) n z ((1 <<< (nI (n - 1) &&& 31)) - 1) ((1 <<< (nI (n - 1) &&& 31)) - 1)) = (if n = 1 then 1 else ttV E n)) ∧
    (agI n z (fjE E) (fdE E) (nF c) = aoV E z (nF c) (blP E n z (nF c) 6) n) ∧
    (((fdR n z (fjE E) (fdE E) f5).1 z) = 0) ∧
    (∀ v, v < n → ¬ v = z → ¬ ((fdR n z (fjE E) (fdE E) f5).1 v) < 0 ∧ ((fdR n z (fjE E) (fdE E) f5).1 v) < nI (dg E v)) ∧
    (hiO (cnL E z (lsA E n z F (twA (fdR n z (fjE E) (fdE E) f5).1 n, (fun _ => 0), 0)).1) n = none) ∧
    (∀ v, v < n → ¬ blP E n z (unA (fdR n z (fjE E) (fdE E) f5).1 n) 6 v < 0) ∧
    (∀ v, v < n → ¬ v = z → (lsA E n z F (twA (fdR n z (fjE E) (fdE E) f5).1 n, (fun _ => 0), 0)).1 v = ((fdR n z (fjE E) (fdE E) f5).1 v)) ∧
    (∀ q v, v < n → rdI n z (fdE E) (iF d) (fdR n z (fjE E) (fdE E) (msI (fdE E) (iF d) q n)).1 v = rv v) ∧
    (∀ v, v < n → ¬ v = z → ¬ rv v < 0) ∧
    (∀ s, 0 < s → s < 2 ^ n → ¬ ((nI s >>> (nI z &&& 31)) &&& 1) = 1 → irB E rv n s n = true) ∧
    (rdS rv (iF d) n = 0) ∧
    (hiO (cnL E z (lsA E n z F (smA z n (iF d) n, (fun _ => 0), 0)).1) n = none) ∧
    (hiO (cnL E z (lsA E n z F (smA z n (unA rv n) n, (fun _ => 0), 0)).1) n = none) ∧
    (∀ v, v < n → ¬ v = z → (lsA E n z F (smA z n (iF d) n, (fun _ => 0), 0)).1 v = (lsA E n z F (smA z n (unA rv n) n, (fun _ => 0), 0)).1 v) ∧
    ((mnV (fjE E) (fdE E) n z ((1 <<< (nI (n - 1) &&& 31)) - 1) ((1 <<< (nI (n - 1) &&& 31)) - 1)) = (clL n (ctB n (fjE E) q9 n)).1) ∧
    ((stA n z (fjE E) (fdE E) (fun i9 => i9) mR ((nF c), (fun _ => 0), 0, 0)).2.2.2 = (stA n z (fjE E) (fdE E) (fun i9 => n - 1 - i9) mR ((nF c), (fun _ => 0), 0, 0)).2.2.2) ∧
    (pLike (stA n z (fjE E) (fdE E) (fun i9 => i9) mR ((nF c), (fun _ => 0), 0, 0)).1 (stA n z (fjE E) (fdE E) (fun i9 => n - 1 - i9) mR ((nF c), (fun _ => 0), 0, 0)).1 (stA n z (fjE E) (fdE E) (fun i9 => i9) mR ((nF c), (fun _ => 0), 0, 0)).2.1 (stA n z (fjE E) (fdE E) (fun i9 => n - 1 - i9) mR ((nF c), (fun _ => 0), 0, 0)).2.1 (stA n z (fjE E) (fdE E) (fun i9 => i9) mR ((nF c), (fun _ => 0), 0, 0)).2.2.1 (stA n z (fjE E) (fdE E) (fun i9 => n - 1 - i9) mR ((nF c), (fun _ => 0), 0, 0)).2.2.1 = true) ∧
    (crI (fdE E) (iF d) n = true → ∀ q1 q2, rkV (fjE E) (fdE E) n z q1 (iF d) - rkV (fjE E) (fdE E) n z q2 (rsI (fdE E) (iF d) n) = (rSum (iF d) 6 - rSum (fdE E) 6 / 2 + nI n)) := by
  have hn := hG.1
  have hb : ∀ j, j < 6 → c j < 1500 := fun j hj => by have := sumN_ge1 (f := c) (n := 6) j hj; omega
  have hcb : ∀ v, c v ≤ 2000 := fun v => by
    by_cases q : v < 6
    · have := hb v q; omega
    · rw [hco v (by omega)]; omega
  obtain ⟨m, rfl⟩ : ∃ m, n = m + 1 := ⟨n - 1, by omega⟩
  obtain ⟨t1, t2⟩ := trees_law hG hz
  obtain ⟨_, NF, FK, f1, f2, f3, f4, f5x, f6, f7, f8, f9⟩ := fact_law hG hC (by omega) hz hcb t1
  obtain ⟨u1, u2, u3, u4, u5⟩ := unit_law hG hC (by omega) hz h5 (F := 210000) (by omega)
  obtain ⟨rv, r1, r2, r3, r4, r5, r6, r7⟩ := red_law hG hC (by omega) hz (fo := iF d) (d := d) (fun _ _ => rfl) (fun v _ => by have := hd v; omega) hd0 (F := 210000) (by omega)
  obtain ⟨l1, l2⟩ := alike_dirs hG hC hz hc (by omega) (f := nF c) (fun _ _ => rfl)
  have hT2 : ttV E (m + 1) = lI (det m (LM E z)) := t2
  have hM := mn_all hG z
  have hif : (if m + 1 = 1 then (1 : Int64) else ttV E (m + 1)) = lI (det m (LM E z)) := by rw [if_neg (show ¬ m + 1 = 1 by omega), t2]
  refine ⟨NF, 210000, FK, rv, rfl, (gConn_iff hG (by omega)).mpr hC, (lwV_iff hG (by omega) hz).mpr hC, f1, f2, f3, f4, f5x, f6, ?_, ?_, ?_, ?_, again_eq hG hC (by omega) hz (fun v _ => by have := hcb v; omega) (fun _ _ => rfl), u1, u2, u3, u4, u5, r1, r2, r3, r4, r5, r6, r7, ?_, l1, l2, fun h q1 q2 => rank_law hG hC (by omega) hz hd hd0 h q1 q2⟩
  · rw [hif]; exact f7
  · rw [hM]; exact f8
  · rw [hM]; exact f9
  · rw [hM, hif]
  · rw [hM, left_law hG hz]
theorem told_split {n : Nat} {E : Nat → Nat → Nat} (hG : Gr n E) (h3 : 3 ≤ n) {z : Nat} (hz : z < n) {c t : Nat → Nat} {d : Nat → Int} (hc : c z = 0) (hco : ∀ j, n ≤ j → c j = 0) (hT : sumN c 6 < 1500) (ht : ∀ v, t v < 2 ^ 30) (hd : ∀ v, -600 ≤ d v ∧ d v ≤ 600) (hd0 : ∀ v, n ≤ v → d v = 0) {f5 : Nat → Int32} (h5 : ∀ v, v < 6 → f5 v = 0) (q9 : Nat → Int32) (hC : ¬ Conn n E) :
    (gConn (fjE E) n = false) ∧
    (lwV E n z = false) ∧
    ((mnV (fjE E) (fdE E) n z ((1 <<< (nI (n - 1) &&& 31)) - 1) ((1 <<< (nI (n - 1) &&& 31)) - 1)) = 0) ∧
    ((mnV (fjE E) (fdE E) n z ((1 <<< (nI (n - 1) &&& 31)) - 1) ((1 <<< (nI (n - 1) &&& 31)) - 1)) = (clL n (ctB n (fjE E) q9 n)).1) := by
  have hn := hG.1
  obtain ⟨m, rfl⟩ : ∃ m, n = m + 1 := ⟨n - 1, by omega⟩
  have hM := mn_all hG z
  refine ⟨Bool.eq_false_iff.mpr (fun q => hC ((gConn_iff hG (by omega)).mp q)), Bool.eq_false_iff.mpr (fun q => hC ((lwV_iff hG (by omega) hz).mp q)), ?_, ?_⟩
  · rw [hM, det_LM_0 hG hz hC, lI_0]
  · rw [hM, left_law hG hz]
