/-! TREES: the law's sets of edges, the class's last vertex, the determinant -/
theorem popL_0 : ∀ m, popL m 0 = 0
  | 0 => rfl
  | m + 1 => by
    show 0 % 2 + popL m (0 / 2) = 0
    rw [Nat.zero_div, popL_0 m]
theorem popL_up : ∀ (m s : Nat), s < 2 ^ m → popL (m + 1) s = popL m s
  | 0, s, h => by
    have : s = 0 := by rw [Nat.pow_zero] at h; omega
    rw [this, popL_0]; rfl
  | m + 1, s, h => by
    show s % 2 + popL (m + 1) (s / 2) = s % 2 + popL m (s / 2)
    rw [popL_up m (s / 2) (by rw [Nat.pow_succ] at h; omega)]
theorem popL_15 {s : Nat} : ∀ (j m : Nat), s < 2 ^ m → popL (m + j) s = popL m s
  | 0, _, _ => rfl
  | j + 1, m, h => by
    rw [show m + (j + 1) = (m + j) + 1 by omega, popL_up (m + j) s (Nat.lt_of_lt_of_le h (Nat.pow_le_pow_right (by omega) (by omega))), popL_15 j m h]
theorem bcc_0 : (List.range 1024).all (fun i => decide (bcI (nI (0 + i)) = nI (popL 15 (0 + i)))) = true := by decide +kernel
theorem bcc_1 : (List.range 1024).all (fun i => decide (bcI (nI (1024 + i)) = nI (popL 15 (1024 + i)))) = true := by decide +kernel
theorem bcc_2 : (List.range 1024).all (fun i => decide (bcI (nI (2048 + i)) = nI (popL 15 (2048 + i)))) = true := by decide +kernel
theorem bcc_3 : (List.range 1024).all (fun i => decide (bcI (nI (3072 + i)) = nI (popL 15 (3072 + i)))) = true := by decide +kernel
theorem bcc_4 : (List.range 1024).all (fun i => decide (bcI (nI (4096 + i)) = nI (popL 15 (4096 + i)))) = true := by decide +kernel
theorem bcc_5 : (List.range 1024).all (fun i => decide (bcI (nI (5120 + i)) = nI (popL 15 (5120 + i)))) = true := by decide +kernel
theorem bcc_6 : (List.range 1024).all (fun i => decide (bcI (nI (6144 + i)) = nI (popL 15 (6144 + i)))) = true := by decide +kernel
theorem bcc_7 : (List.range 1024).all (fun i => decide (bcI (nI (7168 + i)) = nI (popL 15 (7168 + i)))) = true := by decide +kernel
theorem bcc_8 : (List.range 1024).all (fun i => decide (bcI (nI (8192 + i)) = nI (popL 15 (8192 + i)))) = true := by decide +kernel
theorem bcc_9 : (List.range 1024).all (fun i => decide (bcI (nI (9216 + i)) = nI (popL 15 (9216 + i)))) = true := by decide +kernel
theorem bcc_10 : (List.range 1024).all (fun i => decide (bcI (nI (10240 + i)) = nI (popL 15 (10240 + i)))) = true := by decide +kernel
theorem bcc_11 : (List.range 1024).all (fun i => decide (bcI (nI (11264 + i)) = nI (popL 15 (11264 + i)))) = true := by decide +kernel
theorem bcc_12 : (List.range 1024).all (fun i => decide (bcI (nI (12288 + i)) = nI (popL 15 (12288 + i)))) = true := by decide +kernel
theorem bcc_13 : (List.range 1024).all (fun i => decide (bcI (nI (13312 + i)) = nI (popL 15 (13312 + i)))) = true := by decide +kernel
theorem bcc_14 : (List.range 1024).all (fun i => decide (bcI (nI (14336 + i)) = nI (popL 15 (14336 + i)))) = true := by decide +kernel
theorem bcc_15 : (List.range 1024).all (fun i => decide (bcI (nI (15360 + i)) = nI (popL 15 (15360 + i)))) = true := by decide +kernel
theorem bcc_16 : (List.range 1024).all (fun i => decide (bcI (nI (16384 + i)) = nI (popL 15 (16384 + i)))) = true := by decide +kernel
theorem bcc_17 : (List.range 1024).all (fun i => decide (bcI (nI (17408 + i)) = nI (popL 15 (17408 + i)))) = true := by decide +kernel
theorem bcc_18 : (List.range 1024).all (fun i => decide (bcI (nI (18432 + i)) = nI (popL 15 (18432 + i)))) = true := by decide +kernel
theorem bcc_19 : (List.range 1024).all (fun i => decide (bcI (nI (19456 + i)) = nI (popL 15 (19456 + i)))) = true := by decide +kernel
theorem bcc_20 : (List.range 1024).all (fun i => decide (bcI (nI (20480 + i)) = nI (popL 15 (20480 + i)))) = true := by decide +kernel
theorem bcc_21 : (List.range 1024).all (fun i => decide (bcI (nI (21504 + i)) = nI (popL 15 (21504 + i)))) = true := by decide +kernel
theorem bcc_22 : (List.range 1024).all (fun i => decide (bcI (nI (22528 + i)) = nI (popL 15 (22528 + i)))) = true := by decide +kernel
theorem bcc_23 : (List.range 1024).all (fun i => decide (bcI (nI (23552 + i)) = nI (popL 15 (23552 + i)))) = true := by decide +kernel
theorem bcc_24 : (List.range 1024).all (fun i => decide (bcI (nI (24576 + i)) = nI (popL 15 (24576 + i)))) = true := by decide +kernel
theorem bcc_25 : (List.range 1024).all (fun i => decide (bcI (nI (25600 + i)) = nI (popL 15 (25600 + i)))) = true := by decide +kernel
theorem bcc_26 : (List.range 1024).all (fun i => decide (bcI (nI (26624 + i)) = nI (popL 15 (26624 + i)))) = true := by decide +kernel
theorem bcc_27 : (List.range 1024).all (fun i => decide (bcI (nI (27648 + i)) = nI (popL 15 (27648 + i)))) = true := by decide +kernel
theorem bcc_28 : (List.range 1024).all (fun i => decide (bcI (nI (28672 + i)) = nI (popL 15 (28672 + i)))) = true := by decide +kernel
theorem bcc_29 : (List.range 1024).all (fun i => decide (bcI (nI (29696 + i)) = nI (popL 15 (29696 + i)))) = true := by decide +kernel
theorem bcc_30 : (List.range 1024).all (fun i => decide (bcI (nI (30720 + i)) = nI (popL 15 (30720 + i)))) = true := by decide +kernel
theorem bcc_31 : (List.range 1024).all (fun i => decide (bcI (nI (31744 + i)) = nI (popL 15 (31744 + i)))) = true := by decide +kernel
theorem bc_get {b s : Nat} (h : (List.range 1024).all (fun i => decide (bcI (nI (b + i)) = nI (popL 15 (b + i)))) = true) (h1 : b ≤ s) (h2 : s < b + 1024) : bcI (nI s) = nI (popL 15 s) := by
  have := of_decide_eq_true (List.all_eq_true.mp h (s - b) (List.mem_range.mpr (by omega)))
  rw [show b + (s - b) = s by omega] at this
  exact this
theorem bc_15 {s : Nat} (hs : s < 32768) : bcI (nI s) = nI (popL 15 s) := by
  by_cases h0 : s < 1024
  · exact bc_get bcc_0 (by omega) (by omega)
  by_cases h1 : s < 2048
  · exact bc_get bcc_1 (by omega) (by omega)
  by_cases h2 : s < 3072
  · exact bc_get bcc_2 (by omega) (by omega)
  by_cases h3 : s < 4096
  · exact bc_get bcc_3 (by omega) (by omega)
  by_cases h4 : s < 5120
  · exact bc_get bcc_4 (by omega) (by omega)
  by_cases h5 : s < 6144
  · exact bc_get bcc_5 (by omega) (by omega)
  by_cases h6 : s < 7168
  · exact bc_get bcc_6 (by omega) (by omega)
  by_cases h7 : s < 8192
  · exact bc_get bcc_7 (by omega) (by omega)
  by_cases h8 : s < 9216
  · exact bc_get bcc_8 (by omega) (by omega)
  by_cases h9 : s < 10240
  · exact bc_get bcc_9 (by omega) (by omega)
  by_cases h10 : s < 11264
  · exact bc_get bcc_10 (by omega) (by omega)
  by_cases h11 : s < 12288
  · exact bc_get bcc_11 (by omega) (by omega)
  by_cases h12 : s < 13312
  · exact bc_get bcc_12 (by omega) (by omega)
  by_cases h13 : s < 14336
  · exact bc_get bcc_13 (by omega) (by omega)
  by_cases h14 : s < 15360
  · exact bc_get bcc_14 (by omega) (by omega)
  by_cases h15 : s < 16384
  · exact bc_get bcc_15 (by omega) (by omega)
  by_cases h16 : s < 17408
  · exact bc_get bcc_16 (by omega) (by omega)
  by_cases h17 : s < 18432
  · exact bc_get bcc_17 (by omega) (by omega)
  by_cases h18 : s < 19456
  · exact bc_get bcc_18 (by omega) (by omega)
  by_cases h19 : s < 20480
  · exact bc_get bcc_19 (by omega) (by omega)
  by_cases h20 : s < 21504
  · exact bc_get bcc_20 (by omega) (by omega)
  by_cases h21 : s < 22528
  · exact bc_get bcc_21 (by omega) (by omega)
  by_cases h22 : s < 23552
  · exact bc_get bcc_22 (by omega) (by omega)
  by_cases h23 : s < 24576
  · exact bc_get bcc_23 (by omega) (by omega)
  by_cases h24 : s < 25600
  · exact bc_get bcc_24 (by omega) (by omega)
  by_cases h25 : s < 26624
  · exact bc_get bcc_25 (by omega) (by omega)
  by_cases h26 : s < 27648
  · exact bc_get bcc_26 (by omega) (by omega)
  by_cases h27 : s < 28672
  · exact bc_get bcc_27 (by omega) (by omega)
  by_cases h28 : s < 29696
  · exact bc_get bcc_28 (by omega) (by omega)
  by_cases h29 : s < 30720
  · exact bc_get bcc_29 (by omega) (by omega)
  by_cases h30 : s < 31744
  · exact bc_get bcc_30 (by omega) (by omega)
  exact bc_get bcc_31 (by omega) (by omega)
theorem popL_le : ∀ m s, popL m s ≤ m
  | 0, _ => Nat.le_refl _
  | m + 1, s => by
    have := popL_le m (s / 2)
    show s % 2 + popL m (s / 2) ≤ m + 1
    omega
theorem bc_iff {m s r : Nat} (hm : m ≤ 15) (hs : s < 2 ^ m) (hr : r < 6) : bcI (nI s) = nI r ↔ popL m s = r := by
  have h1 : 2 ^ m ≤ 2 ^ 15 := Nat.pow_le_pow_right (by omega) hm
  rw [bc_15 (by omega), ← popL_15 (15 - m) m hs, show m + (15 - m) = 15 by omega]
  have := popL_le 15 s
  exact nI_eq (by omega) (by omega)
theorem sshr_16 (M : Int32) {v : Nat} (hv : v < 16) : (M >>> (nI v &&& 31)).toBitVec = M.toBitVec.sshiftRight v := by
  rcases (show v = 0 ∨ v = 1 ∨ v = 2 ∨ v = 3 ∨ v = 4 ∨ v = 5 ∨ v = 6 ∨ v = 7 ∨ v = 8 ∨ v = 9 ∨ v = 10 ∨ v = 11 ∨ v = 12 ∨ v = 13 ∨ v = 14 ∨ v = 15 by omega) with rfl | rfl | rfl | rfl | rfl | rfl | rfl | rfl | rfl | rfl | rfl | rfl | rfl | rfl | rfl | rfl <;> rfl
theorem bit_16 {s v : Nat} (hv : v < 16) : ((nI s >>> (nI v &&& 31)) &&& 1) = 0 ↔ s.testBit v = false := by
  rw [pk_and (nI s >>> (nI v &&& 31)) (m := 1) 1 (by decide), sshr_16 (nI s) hv]
  have h1 : ((nI s).toBitVec.sshiftRight v).getLsbD 0 = s.testBit v := by
    have h3 : ((nI s).toBitVec.sshiftRight v).getLsbD 0 = (nI s).toBitVec.getLsbD v := by
      rw [BitVec.getLsbD_sshiftRight]
      simp [show v < 32 by omega]
    have h0 : (nI s).toBitVec.getLsbD v = s.testBit v := by
      show (BitVec.ofNat 32 s).getLsbD v = _
      rw [BitVec.getLsbD_ofNat, decide_eq_true (by omega), Bool.true_and]
    rw [h3, h0]
  have h2 : ((nI s).toBitVec.sshiftRight v).toNat % 2 ^ 1 = if ((nI s).toBitVec.sshiftRight v).getLsbD 0 = true then 1 else 0 := by
    rw [show ((nI s).toBitVec.sshiftRight v).getLsbD 0 = ((nI s).toBitVec.sshiftRight v).toNat.testBit 0 from rfl, Nat.testBit_zero]
    have := Nat.mod_two_eq_zero_or_one ((nI s).toBitVec.sshiftRight v).toNat
    rcases this with q | q <;> simp [q]
  rw [h2, h1]
  cases s.testBit v <;> decide
/-- a run over a list of edges -/
def runP (E : Nat → Nat → Nat) : List (Nat × Nat) → Nat → (Nat → Nat) → (Nat → Nat) × Int
  | [], _, pt => (pt, 1)
  | ab :: L, s, pt => if s % 2 = 0 then runP E L (s / 2) pt else ((runP E L (s / 2) (mrg pt (pt ab.1) (pt ab.2))).1, (if pt ab.1 = pt ab.2 then 0 else (E ab.1 ab.2 : Int)) * (runP E L (s / 2) (mrg pt (pt ab.1) (pt ab.2))).2)
theorem runP_Gs (E : Nat → Nat → Nat) : ∀ (L : List (Nat × Nat)) (s : Nat) (pt : Nat → Nat), (runP E L s pt).2 = Gs E L s pt
  | [], _, _ => rfl
  | ab :: L, s, pt => by
    show (if s % 2 = 0 then runP E L (s / 2) pt else ((runP E L (s / 2) (mrg pt (pt ab.1) (pt ab.2))).1, (if pt ab.1 = pt ab.2 then 0 else (E ab.1 ab.2 : Int)) * (runP E L (s / 2) (mrg pt (pt ab.1) (pt ab.2))).2)).2 = if s % 2 = 0 then Gs E L (s / 2) pt else if pt ab.1 = pt ab.2 then 0 else (E ab.1 ab.2 : Int) * Gs E L (s / 2) (mrg pt (pt ab.1) (pt ab.2))
    by_cases h : s % 2 = 0
    · rw [if_pos h, if_pos h]
      exact runP_Gs E L (s / 2) pt
    · rw [if_neg h, if_neg h]
      show (if pt ab.1 = pt ab.2 then 0 else (E ab.1 ab.2 : Int)) * (runP E L (s / 2) (mrg pt (pt ab.1) (pt ab.2))).2 = _
      rw [runP_Gs E L (s / 2) _]
      by_cases h2 : pt ab.1 = pt ab.2
      · rw [if_pos h2, if_pos h2, Int.zero_mul]
      · rw [if_neg h2, if_neg h2]
def stepP (E : Nat → Nat → Nat) (ab : Nat × Nat) (b : Bool) (R : (Nat → Nat) × Int) : (Nat → Nat) × Int := if b = true then (mrg R.1 (R.1 ab.1) (R.1 ab.2), R.2 * (if R.1 ab.1 = R.1 ab.2 then 0 else (E ab.1 ab.2 : Int))) else R
theorem stepP_mul (E : Nat → Nat → Nat) (ab : Nat × Nat) (b : Bool) (p : Nat → Nat) (x y : Int) : stepP E ab b (p, x * y) = ((stepP E ab b (p, y)).1, x * (stepP E ab b (p, y)).2) := by
  unfold stepP
  cases b
  · rfl
  · rw [if_pos rfl, if_pos rfl]
    show (_, _) = (_, _)
    rw [Int.mul_assoc]
theorem runP_snoc (E : Nat → Nat → Nat) (ab : Nat × Nat) : ∀ (L : List (Nat × Nat)) (s : Nat) (pt : Nat → Nat), runP E (L ++ [ab]) s pt = stepP E ab (s.testBit L.length) (runP E L s pt)
  | [], s, pt => by
    show (if s % 2 = 0 then (pt, (1 : Int)) else (mrg pt (pt ab.1) (pt ab.2), (if pt ab.1 = pt ab.2 then 0 else (E ab.1 ab.2 : Int)) * 1)) = stepP E ab (s.testBit 0) (pt, 1)
    unfold stepP
    rw [Nat.testBit_zero]
    by_cases h : s % 2 = 0
    · rw [if_pos h, if_neg (show ¬ decide (s % 2 = 1) = true by rw [decide_eq_true_eq]; omega)]
    · rw [if_neg h, if_pos (show decide (s % 2 = 1) = true by rw [decide_eq_true_eq]; omega)]
      show (_, _) = (_, _)
      rw [Int.mul_comm]
  | cd :: L, s, pt => by
    have ih := runP_snoc E ab L (s / 2)
    show (if s % 2 = 0 then runP E (L ++ [ab]) (s / 2) pt else ((runP E (L ++ [ab]) (s / 2) (mrg pt (pt cd.1) (pt cd.2))).1, (if pt cd.1 = pt cd.2 then 0 else (E cd.1 cd.2 : Int)) * (runP E (L ++ [ab]) (s / 2) (mrg pt (pt cd.1) (pt cd.2))).2)) = stepP E ab (s.testBit (L.length + 1)) (if s % 2 = 0 then runP E L (s / 2) pt else ((runP E L (s / 2) (mrg pt (pt cd.1) (pt cd.2))).1, (if pt cd.1 = pt cd.2 then 0 else (E cd.1 cd.2 : Int)) * (runP E L (s / 2) (mrg pt (pt cd.1) (pt cd.2))).2))
    rw [Nat.testBit_succ]
    by_cases h : s % 2 = 0
    · rw [if_pos h, if_pos h, ih]
    · rw [if_neg h, if_neg h, ih, stepP_mul]
/-- the list that a table of codes holds -/
def lst (e : Nat → Nat) : Nat → List (Nat × Nat)
  | 0 => []
  | q + 1 => lst e q ++ [(e q / 6, e q % 6)]
theorem lst_len (e : Nat → Nat) : ∀ q, (lst e q).length = q
  | 0 => rfl
  | q + 1 => by
    show (lst e q ++ [(e q / 6, e q % 6)]).length = q + 1
    rw [List.length_append, lst_len e q]; rfl
theorem lst_cong {e e' : Nat → Nat} : ∀ q, (∀ i, i < q → e i = e' i) → lst e q = lst e' q
  | 0, _ => rfl
  | q + 1, h => by
    show lst e q ++ [(e q / 6, e q % 6)] = lst e' q ++ [(e' q / 6, e' q % 6)]
    rw [lst_cong q fun i hi => h i (by omega), h q (by omega)]
theorem teI_lst {E : Nat → Nat → Nat} {a : Nat} (ha : a < 6) {S : (Nat → Nat) × Nat} {L : List (Nat × Nat)} (h : lst S.1 S.2 = L) : ∀ m, m ≤ 6 → lst (teI E a S m).1 (teI E a S m).2 = L ++ rowL E a m
  | 0, _ => by
    show lst S.1 S.2 = L ++ []
    rw [h, List.append_nil]
  | m + 1, hm => by
    have ih := teI_lst (E := E) ha h m (by omega)
    have e1 : teI E a S (m + 1) = if E a m = 0 then teI E a S m else (fun j => if j = (teI E a S m).2 then 6 * a + m else (teI E a S m).1 j, (teI E a S m).2 + 1) := rfl
    have e2 : rowL E a (m + 1) = if 0 < E a m then rowL E a m ++ [(a, m)] else rowL E a m := rfl
    rw [e1, e2]
    by_cases hz : E a m = 0
    · rw [if_pos hz, if_neg (by omega)]
      exact ih
    · rw [if_neg hz, if_pos (by omega), ← List.append_assoc, ← ih]
      show lst (fun j => if j = (teI E a S m).2 then 6 * a + m else (teI E a S m).1 j) (teI E a S m).2 ++ [((if (teI E a S m).2 = (teI E a S m).2 then 6 * a + m else (teI E a S m).1 (teI E a S m).2) / 6, (if (teI E a S m).2 = (teI E a S m).2 then 6 * a + m else (teI E a S m).1 (teI E a S m).2) % 6)] = _
      rw [if_pos rfl, lst_cong (e' := (teI E a S m).1) _ fun i hi => if_neg (by omega), show (6 * a + m) / 6 = a by omega, show (6 * a + m) % 6 = m by omega]
theorem teO_lst {E : Nat → Nat → Nat} : ∀ n, n ≤ 6 → lst (teO E n).1 (teO E n).2 = allL E n
  | 0, _ => rfl
  | n + 1, hn => by
    show lst (teI E n (teO E n) n).1 (teI E n (teO E n) n).2 = allL E n ++ rowL E n n
    exact teI_lst (by omega) (teO_lst n (by omega)) n (by omega)
theorem rowL_len (E : Nat → Nat → Nat) (k : Nat) : ∀ m, (rowL E k m).length ≤ m
  | 0 => Nat.le_refl _
  | m + 1 => by
    have := rowL_len E k m
    show (if 0 < E k m then rowL E k m ++ [(k, m)] else rowL E k m).length ≤ m + 1
    split
    · rw [List.length_append]; show _ + 1 ≤ _; omega
    · omega
theorem allL_len (E : Nat → Nat → Nat) {n : Nat} (hn : n ≤ 6) : (allL E n).length ≤ 15 := by
  have e : ∀ k, (allL E (k + 1)).length = (allL E k).length + (rowL E k k).length := fun k => by
    show (allL E k ++ rowL E k k).length = _
    rw [List.length_append]
  have e0 : (allL E 0).length = 0 := rfl
  have r0 := rowL_len E 0 0; have r1 := rowL_len E 1 1; have r2 := rowL_len E 2 2; have r3 := rowL_len E 3 3; have r4 := rowL_len E 4 4; have r5 := rowL_len E 5 5
  have q0 : (allL E 1).length = (allL E 0).length + (rowL E 0 0).length := e 0
  have q1 : (allL E 2).length = (allL E 1).length + (rowL E 1 1).length := e 1
  have q2 : (allL E 3).length = (allL E 2).length + (rowL E 2 2).length := e 2
  have q3 : (allL E 4).length = (allL E 3).length + (rowL E 3 3).length := e 3
  have q4 : (allL E 5).length = (allL E 4).length + (rowL E 4 4).length := e 4
  have q5 : (allL E 6).length = (allL E 5).length + (rowL E 5 5).length := e 5
  rcases (show n = 0 ∨ n = 1 ∨ n = 2 ∨ n = 3 ∨ n = 4 ∨ n = 5 ∨ n = 6 by omega) with rfl | rfl | rfl | rfl | rfl | rfl | rfl <;> omega
theorem tpS_go {E : Nat → Nat → Nat} (hE : ∀ i j, E i j ≤ 3) (e : Nat → Nat) (s : Nat) : ∀ q, q ≤ 15 → tpS E e s q = ((runP E (lst e q) s id).1, lI (runP E (lst e q) s id).2)
  | 0, _ => by
    show ((id : Nat → Nat), (1 : Int64)) = (id, lI 1)
    rw [lI_1]
  | q + 1, hq => by
    have ih := tpS_go hE e s q (by omega)
    have hu : tpS E e s (q + 1) = if ((nI s >>> (nI q &&& 31)) &&& 1) = 0 then tpS E e s q else (mrg (tpS E e s q).1 ((tpS E e s q).1 (e q / 6)) ((tpS E e s q).1 (e q % 6)), (tpS E e s q).2 * (if (tpS E e s q).1 (e q / 6) = (tpS E e s q).1 (e q % 6) then 0 else (EN E (e q / 6) (e q % 6)).toInt64)) := rfl
    have hr : runP E (lst e (q + 1)) s id = stepP E (e q / 6, e q % 6) (s.testBit q) (runP E (lst e q) s id) := by
      show runP E (lst e q ++ [(e q / 6, e q % 6)]) s id = _
      rw [runP_snoc, lst_len]
    rw [hu, ih, hr]
    unfold stepP
    by_cases h : s.testBit q = true
    · rw [if_neg (fun w => by have := (bit_16 (by omega)).mp w; rw [h] at this; cases this), if_pos h]
      show (_, lI (runP E (lst e q) s id).2 * _) = (_, lI ((runP E (lst e q) s id).2 * _))
      rw [← lI_mul]
      congr 2
      have h3 := hE (e q / 6) (e q % 6)
      show (if (runP E (lst e q) s id).1 (e q / 6) = (runP E (lst e q) s id).1 (e q % 6) then (0 : Int64) else (nI (E (e q / 6) (e q % 6))).toInt64) = lI (if (runP E (lst e q) s id).1 (e q / 6) = (runP E (lst e q) s id).1 (e q % 6) then 0 else (E (e q / 6) (e q % 6) : Int))
      by_cases h4 : (runP E (lst e q) s id).1 (e q / 6) = (runP E (lst e q) s id).1 (e q % 6)
      · rw [if_pos h4, if_pos h4]; exact lI_0.symm
      · rw [if_neg h4, if_neg h4, ← iI_n]
        exact iI_64 (by omega) (by omega)
    · rw [if_pos ((bit_16 (by omega)).mpr (Bool.eq_false_iff.mpr h)), if_neg h]
theorem ttS_go {E : Nat → Nat → Nat} (hE : ∀ i j, E i j ≤ 3) (e : Nat → Nat) {mn r : Nat} (hm : mn ≤ 15) (hr : r < 6) : ∀ k, k ≤ 2 ^ mn → ttS E e mn r k = lI (sI (fun s => if popL (lst e mn).length s = r then Gs E (lst e mn) s id else 0) k)
  | 0, _ => lI_0.symm
  | k + 1, hk => by
    have ih := ttS_go hE e hm hr k (by omega)
    have hu : ttS E e mn r (k + 1) = if bcI (nI k) = nI r then ttS E e mn r k + (tpS E e k mn).2 else ttS E e mn r k := rfl
    show _ = lI (sI (fun s => if popL (lst e mn).length s = r then Gs E (lst e mn) s id else 0) k + (if popL (lst e mn).length k = r then Gs E (lst e mn) k id else 0))
    have hb := bc_iff hm (show k < 2 ^ mn by omega) hr
    rw [hu, ih, ← lI_add, lst_len]
    by_cases h : popL mn k = r
    · rw [if_pos (hb.mpr h), if_pos h, tpS_go hE e k mn hm]
      show _ + lI (runP E (lst e mn) k id).2 = _
      rw [runP_Gs]
    · rw [if_neg (fun w => h (hb.mp w)), if_neg h, lI_0, Int64.add_zero]
theorem ttV_go {n : Nat} {E : Nat → Nat → Nat} (hG : Gr n E) (h1 : 1 ≤ n) : ttV E n = lI (FT E (allL E n) id (n - 1)) := by
  have hn := hG.1
  have hL := teO_lst (E := E) n hn
  have hl : (teO E n).2 = (allL E n).length := by rw [← hL, lst_len]
  have h15 := allL_len E hn
  unfold ttV
  rw [ttS_go hG.2.2.2.2 _ (by omega) (by omega) _ (Nat.le_refl _), hL, hl]
  rfl
theorem Gs_nn (E : Nat → Nat → Nat) : ∀ (L : List (Nat × Nat)) (s : Nat) (pt : Nat → Nat), 0 ≤ Gs E L s pt
  | [], _, _ => by show (0 : Int) ≤ 1; decide
  | ab :: L, s, pt => by
    show 0 ≤ (if s % 2 = 0 then Gs E L (s / 2) pt else if pt ab.1 = pt ab.2 then 0 else (E ab.1 ab.2 : Int) * Gs E L (s / 2) (mrg pt (pt ab.1) (pt ab.2)))
    split
    · exact Gs_nn E L _ _
    · split
      · exact Int.le_refl _
      · exact Int.mul_nonneg (Int.natCast_nonneg _) (Gs_nn E L _ _)
theorem FT_nn (E : Nat → Nat → Nat) (L : List (Nat × Nat)) (pt : Nat → Nat) (r : Nat) : 0 ≤ FT E L pt r := sI_nn fun s _ => by
  show 0 ≤ (if popL L.length s = r then Gs E L s pt else 0)
  split
  · exact Gs_nn E L s pt
  · exact Int.le_refl _
/-- all bits -/
theorem all_bits : (List.range 6).all (fun m => decide (((1 <<< (nI m &&& 31)) - 1 : Int32) = nI (2 ^ m - 1)) && decide (pcN (2 ^ m - 1) m = m) && (List.range m).all fun r => decide (sel (2 ^ m - 1) m r = r)) = true := by decide +kernel
theorem all_get {m : Nat} (hm : m ≤ 5) : ((1 <<< (nI m &&& 31)) - 1 : Int32) = nI (2 ^ m - 1) ∧ pcN (2 ^ m - 1) m = m ∧ ∀ r, r < m → sel (2 ^ m - 1) m r = r := by
  have h := List.all_eq_true.mp all_bits m (List.mem_range.mpr (by omega))
  rw [Bool.and_eq_true, Bool.and_eq_true, decide_eq_true_eq, decide_eq_true_eq] at h
  exact ⟨h.1.1, h.1.2, fun r hr => of_decide_eq_true (List.all_eq_true.mp h.2 r (List.mem_range.mpr hr))⟩
/-- the class's number of trees -/
theorem mn_all {m : Nat} {E : Nat → Nat → Nat} (hG : Gr (m + 1) E) (z : Nat) : mnV (fjE E) (fdE E) (m + 1) z ((1 <<< (nI (m + 1 - 1) &&& 31)) - 1) ((1 <<< (nI (m + 1 - 1) &&& 31)) - 1) = lI (det m (LM E z)) := by
  have hn := hG.1
  obtain ⟨h1, h2, h3⟩ := all_get (m := m) (by omega)
  rw [Nat.add_sub_cancel, h1, mnV_go hG h2 h2]
  unfold mnZ
  rw [det_congr fun i j hi hj => by rw [h3 i hi, h3 j hj]]
theorem trees_law {m : Nat} {E : Nat → Nat → Nat} (hG : Gr (m + 1) E) {z : Nat} (hz : z < m + 1) : 0 ≤ det m (LM E z) ∧ ttV E (m + 1) = lI (det m (LM E z)) := by
  have h := trees_det hG hz
  constructor
  · rw [← h]; exact FT_nn _ _ _ _
  · rw [ttV_go hG (by omega), Nat.add_sub_cancel, h]
