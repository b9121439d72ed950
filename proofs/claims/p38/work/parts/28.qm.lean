/-! the matrix of all pairs is that of the others; trees of law and class are its determinant -/
/-- the pairs with edges, as the law lists them -/
def rowL (E : Nat → Nat → Nat) (k : Nat) : Nat → List (Nat × Nat)
  | 0 => []
  | m + 1 => if 0 < E k m then rowL E k m ++ [(k, m)] else rowL E k m
def allL (E : Nat → Nat → Nat) : Nat → List (Nat × Nat)
  | 0 => []
  | n + 1 => allL E n ++ rowL E n n
def tmQ (n z : Nat) (E : Nat → Nat → Nat) (ab : Nat × Nat) (i j : Nat) : Int := (E ab.1 ab.2 : Int) * ((bv n z id ab.1 i - bv n z id ab.2 i) * (bv n z id ab.1 j - bv n z id ab.2 j))
def smQ (n z : Nat) (E : Nat → Nat → Nat) (i j : Nat) : List (Nat × Nat) → Int
  | [] => 0
  | ab :: L => smQ n z E i j L + tmQ n z E ab i j
theorem smQ_app (n z : Nat) (E : Nat → Nat → Nat) (i j : Nat) (L2 : List (Nat × Nat)) : ∀ L, smQ n z E i j (L ++ L2) = smQ n z E i j L + smQ n z E i j L2
  | [] => by show smQ n z E i j L2 = 0 + smQ n z E i j L2; omega
  | ab :: L => by
    show smQ n z E i j (L ++ L2) + tmQ n z E ab i j = smQ n z E i j L + tmQ n z E ab i j + _
    rw [smQ_app n z E i j L2 L]; omega
theorem Qm_sm (n z : Nat) (E : Nat → Nat → Nat) (i j : Nat) : ∀ L, Qm n z E id L i j = (if i = j then (if act n z id i = true then 0 else 1) else 0) + smQ n z E i j L
  | [] => by show _ = _ + (0 : Int); rw [Int.add_zero]; rfl
  | ab :: L => by
    show Qm n z E id L i j + tmQ n z E ab i j = _ + (smQ n z E i j L + tmQ n z E ab i j)
    rw [Qm_sm n z E i j L]; omega
theorem smQ_row (n z : Nat) (E : Nat → Nat → Nat) (i j k : Nat) : ∀ m, smQ n z E i j (rowL E k m) = sI (fun b => tmQ n z E (k, b) i j) m
  | 0 => rfl
  | m + 1 => by
    show smQ n z E i j (if 0 < E k m then rowL E k m ++ [(k, m)] else rowL E k m) = sI (fun b => tmQ n z E (k, b) i j) m + tmQ n z E (k, m) i j
    by_cases h : 0 < E k m
    · rw [if_pos h, smQ_app, smQ_row n z E i j k m]
      show _ + (0 + _) = _
      omega
    · rw [if_neg h, smQ_row n z E i j k m]
      have : tmQ n z E (k, m) i j = 0 := by
        unfold tmQ
        rw [show E (k, m).1 (k, m).2 = 0 from Nat.eq_zero_of_not_pos h]
        exact Int.zero_mul _
      omega
theorem bv_off {n z : Nat} {p i : Nat} (h : act n z id i = false) : bv n z id p i = 0 := by
  unfold bv
  refine if_neg fun q => ?_
  rw [← q.1, h] at q
  exact absurd q.2 (by decide)
theorem bv_on {n z : Nat} {p i : Nat} (h : act n z id i = true) : bv n z id p i = if p = i then 1 else 0 := by
  unfold bv
  by_cases hq : p = i
  · rw [if_pos hq, if_pos ⟨hq.symm, by rw [hq]; exact h⟩]
  · rw [if_neg hq, if_neg fun r => hq r.1.symm]
/-- all vertices, those that are none and z with a 1 alone -/
def PadM (n z : Nat) (E : Nat → Nat → Nat) (i j : Nat) : Int := if i = z ∨ j = z ∨ n ≤ i ∨ n ≤ j then (if i = j then 1 else 0) else if i = j then (dg E i : Int) else - (E i j : Int)
theorem smQ_all {n z : Nat} {E : Nat → Nat → Nat} (hS : ∀ i j, E i j = E j i) (h0 : ∀ i, E i i = 0) {i j : Nat} (hi : act n z id i = true) (hj : act n z id j = true) : ∀ m, smQ n z E i j (allL E m) = if i < m ∧ j < m then (if i = j then sI (fun u => (E i u : Int)) m else - (E i j : Int)) else 0
  | 0 => by rw [if_neg (by omega)]; rfl
  | m + 1 => by
    show smQ n z E i j (allL E m ++ rowL E m m) = _
    rw [smQ_app, smQ_all hS h0 hi hj m, smQ_row]
    have ht : ∀ b, tmQ n z E (m, b) i j = (E m b : Int) * (((if m = i then 1 else 0) - (if b = i then 1 else 0)) * ((if m = j then 1 else 0) - (if b = j then 1 else 0))) := fun b => by
      unfold tmQ
      rw [bv_on hi, bv_on hi, bv_on hj, bv_on hj]
    by_cases him : i = m
    · by_cases hjm : j = m
      · -- both are the new one
        have hs : sI (fun b => tmQ n z E (m, b) i j) m = sI (fun u => (E i u : Int)) m := sI_congr fun b hb => by
          have hE : E m b = E i b := by rw [him]
          rw [ht b, if_pos him.symm, if_pos hjm.symm, if_neg (show ¬ b = i by omega), if_neg (show ¬ b = j by omega), hE]; omega
        have hE : E i m = 0 := by rw [him]; exact h0 m
        rw [if_neg (show ¬ (i < m ∧ j < m) by omega), if_pos (show i < m + 1 ∧ j < m + 1 by omega), if_pos (show i = j by omega), hs]
        show 0 + _ = sI (fun u => (E i u : Int)) m + (E i m : Int)
        rw [hE]; simp
      · by_cases hjl : j < m
        · have hs : sI (fun b => tmQ n z E (m, b) i j) m = sI (fun b => if b = j then - (E i j : Int) else 0) m := sI_congr fun b hb => by
            have hE : E m b = E i b := by rw [him]
            rw [ht b, if_pos him.symm, if_neg (Ne.symm hjm), if_neg (show ¬ b = i by omega), hE]
            by_cases hbj : b = j
            · rw [if_pos hbj, if_pos hbj, hbj]; omega
            · rw [if_neg hbj, if_neg hbj]; omega
          rw [if_neg (show ¬ (i < m ∧ j < m) by omega), if_pos (show i < m + 1 ∧ j < m + 1 by omega), if_neg (show ¬ i = j by omega), hs, sI_ite, if_pos hjl]
          omega
        · rw [if_neg (by omega), if_neg (by omega), sI_0 fun b hb => by
            rw [ht b, if_neg (Ne.symm hjm), if_neg (show ¬ b = j by omega)]; simp]
          omega
    · by_cases hjm : j = m
      · by_cases hil : i < m
        · have hs : sI (fun b => tmQ n z E (m, b) i j) m = sI (fun b => if b = i then - (E i j : Int) else 0) m := sI_congr fun b hb => by
            have hE : E m b = E b j := by rw [hjm, hS]
            rw [ht b, if_neg (Ne.symm him), if_pos hjm.symm, if_neg (show ¬ b = j by omega), hE]
            by_cases hbj : b = i
            · rw [if_pos hbj, if_pos hbj, hbj]; omega
            · rw [if_neg hbj, if_neg hbj]; omega
          rw [if_neg (show ¬ (i < m ∧ j < m) by omega), if_pos (show i < m + 1 ∧ j < m + 1 by omega), if_neg (show ¬ i = j by omega), hs, sI_ite, if_pos hil]
          omega
        · rw [if_neg (by omega), if_neg (by omega), sI_0 fun b hb => by
            rw [ht b, if_neg (Ne.symm him), if_neg (show ¬ b = i by omega)]; simp]
          omega
      · -- both before, or not yet there
        have ht2 : ∀ b, b < m → tmQ n z E (m, b) i j = if b = i then (if i = j then (E m i : Int) else 0) else 0 := fun b hb => by
          rw [ht b, if_neg (Ne.symm him), if_neg (Ne.symm hjm)]
          by_cases hbi : b = i
          · rw [if_pos hbi, if_pos hbi]
            by_cases hij : i = j
            · rw [if_pos (by omega), if_pos hij, hbi]; omega
            · rw [if_neg (by omega), if_neg hij]; simp
          · rw [if_neg hbi, if_neg hbi]; simp
        rw [sI_congr ht2, sI_ite]
        by_cases hil : i < m
        · by_cases hjl : j < m
          · rw [if_pos (show i < m ∧ j < m by omega), if_pos hil, if_pos (show i < m + 1 ∧ j < m + 1 by omega)]
            by_cases hij : i = j
            · rw [if_pos hij, if_pos hij, if_pos hij]
              show _ = sI (fun u => (E i u : Int)) m + (E i m : Int)
              rw [hS m i]
            · rw [if_neg hij, if_neg hij, if_neg hij]; omega
          · rw [if_neg (by omega), if_pos hil, if_neg (show ¬ i = j by omega), if_neg (by omega)]; rfl
        · rw [if_neg (by omega), if_neg hil, if_neg (by omega)]; rfl
theorem Qm_pad {n z : Nat} {E : Nat → Nat → Nat} (hG : Gr n E) {i j : Nat} : Qm n z E id (allL E n) i j = PadM n z E i j := by
  rw [Qm_sm]
  unfold PadM
  have hoff : ∀ L, (act n z id i = false ∨ act n z id j = false) → smQ n z E i j L = 0 := fun L h => by
    induction L with
    | nil => rfl
    | cons ab L ih =>
      show smQ n z E i j L + tmQ n z E ab i j = 0
      rw [ih]
      unfold tmQ
      rcases h with h | h
      · rw [bv_off h, bv_off h]; simp
      · rw [bv_off (p := ab.1) h, bv_off (p := ab.2) h]; simp
  by_cases hq : i = z ∨ j = z ∨ n ≤ i ∨ n ≤ j
  · rw [if_pos hq]
    have h : act n z id i = false ∨ act n z id j = false := by
      cases h1 : act n z id i
      · exact Or.inl rfl
      · right
        cases h2 : act n z id j
        · rfl
        · have a1 := act_iff.mp h1
          have a2 := act_iff.mp h2
          have a3 : i ≠ z := a1.2.2
          have a4 : j ≠ z := a2.2.2
          omega
    rw [hoff _ h]
    by_cases hij : i = j
    · rw [if_pos hij, if_pos hij]
      have : act n z id i = false := by
        rcases h with h | h
        · exact h
        · rw [hij]; exact h
      rw [this]; rfl
    · rw [if_neg hij, if_neg hij]; rfl
  · rw [if_neg hq]
    have h1 : act n z id i = true := act_iff.mpr ⟨by omega, rfl, fun r => hq (Or.inl r)⟩
    have h2 : act n z id j = true := act_iff.mpr ⟨by omega, rfl, fun r => hq (Or.inr (Or.inl r))⟩
    rw [smQ_all hG.2.1 hG.2.2.1 h1 h2, if_pos (show i < n ∧ j < n by omega), h1]
    by_cases hij : i = j
    · rw [if_pos hij, if_pos hij, if_pos hij, if_pos rfl]
      have : (dg E i : Int) = sI (fun u => (E i u : Int)) n := by
        unfold dg
        rw [sumN_I]
        exact sI_cut6 hG.1 fun u hu => by rw [hG.2.1, hG.2.2.2.1 u i hu]; rfl
      omega
    · rw [if_neg hij, if_neg hij, if_neg hij]; omega
/-- rows and columns with a 1 alone fall away from the end -/
theorem det_tail {k : Nat} {A : Nat → Nat → Int} : ∀ d, (∀ i j, k ≤ i → i < k + d → A i j = if j = i then 1 else 0) → det (k + d) A = det k A
  | 0, _ => rfl
  | d + 1, h => by
    have h1 := det_delta (m := k + d) (k + d) (A := A) (by omega) (fun j => h (k + d) j (by omega) (by omega))
    rw [show k + (d + 1) = k + d + 1 by omega, h1, ← det_tail d (fun i j h2 h3 => h i j h2 (by omega))]
    exact det_congr fun i j hi hj => by
      rw [show skp (k + d) i = i by unfold skp; rw [if_pos hi], show skp (k + d) j = j by unfold skp; rw [if_pos hj]]
theorem det_pad {m z : Nat} {E : Nat → Nat → Nat} (hm : m + 1 ≤ 6) (hz : z < m + 1) : det 6 (PadM (m + 1) z E) = det m (LM E z) := by
  have h1 : det 6 (PadM (m + 1) z E) = det 5 (fun r k => PadM (m + 1) z E (skp z r) (skp z k)) := det_delta (m := 5) z (by omega) fun j => by
    unfold PadM
    rw [if_pos (Or.inl rfl)]
    by_cases h : z = j
    · rw [if_pos h, if_pos h.symm]
    · rw [if_neg h, if_neg (Ne.symm h)]
  have hsk : ∀ r, m ≤ r → m + 1 ≤ skp z r := fun r hr => by unfold skp; rw [if_neg (by omega)]; omega
  have h2 := det_tail (k := m) (A := fun r k => PadM (m + 1) z E (skp z r) (skp z k)) (5 - m) fun i j hi _ => by
    show PadM (m + 1) z E (skp z i) (skp z j) = _
    unfold PadM
    rw [if_pos (Or.inr (Or.inr (Or.inl (hsk i hi))))]
    by_cases h : j = i
    · rw [h, if_pos rfl, if_pos rfl]
    · rw [if_neg h, if_neg fun q => h (skp_inj q).symm]
  rw [show m + (5 - m) = 5 by omega] at h2
  rw [h1, h2]
  exact det_congr fun i j hi hj => by
    have a1 := skp_ne z i
    have a2 := skp_ne z j
    have a3 := skp_lt (j := z) hi
    have a4 := skp_lt (j := z) hj
    unfold PadM LM
    rw [if_neg (by omega)]
    by_cases h : i = j
    · rw [if_pos h, if_pos (by rw [h])]
    · rw [if_neg h, if_neg fun q => h (skp_inj q)]
/-- trees by sets of edges: the determinant, whatever the sink -/
theorem trees_det {m z : Nat} {E : Nat → Nat → Nat} (hG : Gr (m + 1) E) (hz : z < m + 1) : FT E (allL E (m + 1)) id m = det m (LM E z) := by
  have hlab : Lab (m + 1) id := fun v hv => ⟨hv, rfl⟩
  have hrow : ∀ k b, ∀ ab ∈ rowL E k b, ab.1 = k ∧ ab.2 < b := fun k b => by
    induction b with
    | zero => intro ab h; cases h
    | succ b ih =>
      intro ab h
      unfold rowL at h
      split at h
      · rcases List.mem_append.mp h with q | q
        · have := ih ab q; omega
        · rw [List.mem_singleton] at q; subst q; exact ⟨rfl, Nat.lt_succ_self _⟩
      · have := ih ab h; omega
  have hall : ∀ n, ∀ ab ∈ allL E n, ab.1 < n ∧ ab.2 < n := fun n => by
    induction n with
    | zero => intro ab h; cases h
    | succ n ih =>
      intro ab h
      rcases List.mem_append.mp h with q | q
      · have := ih ab q; omega
      · have := hrow n n ab q; omega
  have hc : cnt (act (m + 1) z id) 6 = m := by
    have h1 := cnt_del (P := fun j => decide (j < m + 1)) (Q := act (m + 1) z id) (x := z) (by simp [hz]) (by unfold act; simp) (fun j hj => by unfold act; simp [hj]) 6
    have h2 : cnt (fun j => decide (j < m + 1)) 6 = m + 1 := by
      have h3 := cnt_rng 0 (m + 1) 6
      rw [cnt_eq (Q := fun j => decide (j < m + 1)) fun j _ => by simp] at h3
      have := hG.1
      omega
    rw [if_pos (by have := hG.1; omega)] at h1
    omega
  have h := FT_det (E := E) hG.1 hz (allL E (m + 1)) id hlab (hall (m + 1))
  rw [hc] at h
  rw [h, ← det_pad hG.1 hz]
  exact det_congr fun i j _ _ => Qm_pad hG
/-- trees by the edges of the last vertex: the same -/
theorem left_det {m z : Nat} {E : Nat → Nat → Nat} (hG : Gr (m + 1) E) (hz : z < m + 1) : tC (m + 1) (fun i j => (E i j : Int)) = det m (LM E z) := by
  have hn := hG.1
  rw [tC_det (m + 1) _ (by omega) hn (fun i j => by rw [hG.2.1]), ← trees_det hG hz, trees_det hG (show 0 < m + 1 by omega), ← det_pad hn (show 0 < m + 1 by omega)]
  refine det_congr fun i j hi hj => ?_
  unfold LapQ PadM
  by_cases h : i = 0 ∨ j = 0 ∨ m + 1 ≤ i ∨ m + 1 ≤ j
  · rw [if_pos h, if_pos h]
  · rw [if_neg h, if_neg h]
    by_cases hij : i = j
    · rw [if_pos hij, if_pos hij]
      unfold dg
      rw [sumN_I, sI_cut6 hn fun u hu => by rw [hG.2.1, hG.2.2.2.1 u i hu]; rfl]
      exact sI_congr fun u _ => by
        by_cases hui : u = i
        · rw [if_pos hui, hui, hG.2.2.1]; rfl
        · rw [if_neg hui]
    · rw [if_neg hij, if_neg hij]
