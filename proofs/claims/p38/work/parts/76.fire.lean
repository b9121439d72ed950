/-! FIRE: the class's, the law's, that of the mathematics -/
def iI (x : Int) : Int32 := Int32.ofInt x
def iF (d : Nat → Int) (v : Nat) : Int32 := iI (d v)
theorem iI_toInt {x : Int} (h1 : -2 ^ 31 ≤ x) (h2 : x < 2 ^ 31) : (iI x).toInt = x := Int32.toInt_ofInt_of_le (by omega) (by omega)
theorem iI_n (a : Nat) : iI (a : Int) = nI a := Int32.ofInt_eq_ofNat
theorem iI_lt0 {x : Int} (h1 : -2 ^ 31 ≤ x) (h2 : x < 2 ^ 31) : iI x < 0 ↔ x < 0 := by
  rw [Int32.lt_iff_toInt_lt, iI_toInt h1 h2]; rfl
theorem iI_le {x y : Int} (h1 : -2 ^ 31 ≤ x) (h2 : x < 2 ^ 31) (h3 : -2 ^ 31 ≤ y) (h4 : y < 2 ^ 31) : iI x ≤ iI y ↔ x ≤ y := by
  rw [Int32.le_iff_toInt_le, iI_toInt h1 h2, iI_toInt h3 h4]
theorem iI_lt {x y : Int} (h1 : -2 ^ 31 ≤ x) (h2 : x < 2 ^ 31) (h3 : -2 ^ 31 ≤ y) (h4 : y < 2 ^ 31) : iI x < iI y ↔ x < y := by
  rw [Int32.lt_iff_toInt_lt, iI_toInt h1 h2, iI_toInt h3 h4]
theorem iI_m1 : iI (-1) = -1 := by decide
theorem iI_0 : iI 0 = 0 := by decide
theorem iI_add (x y : Int) : iI x + iI y = iI (x + y) := by unfold iI; rw [← Int32.ofInt_add]
theorem iI_sub (x y : Int) : iI x - iI y = iI (x - y) := by unfold iI; rw [← Int32.ofInt_sub]
theorem iI_mul (x y : Int) : iI x * iI y = iI (x * y) := by unfold iI; rw [← Int32.ofInt_mul]
theorem iI_neg (x : Int) : - iI x = iI (-x) := by unfold iI; rw [← Int32.ofInt_neg]
/-- the edges to those that don't burn -/
theorem unbI_e {E : Nat → Nat → Nat} {fp : Nat → Int32} {p : Nat → Int} (hp : ∀ v, v < 6 → (fp v < 0 ↔ p v < 0)) {v : Nat} : ∀ n, n ≤ 6 → unbI (fjE E) fp v n = nI (sumN (fun w => if p w < 0 then E v w else 0) n)
  | 0, _ => rfl
  | n + 1, hn => by
    have ih := unbI_e (E := E) hp (v := v) n (by omega)
    have e : unbI (fjE E) fp v (n + 1) = if fp n < 0 then unbI (fjE E) fp v n + fjE E (v * 6 + n) else unbI (fjE E) fp v n := rfl
    rw [e, ih, fjE_at E (by omega)]
    show _ = nI (sumN _ n + if p n < 0 then E v n else 0)
    by_cases h : p n < 0
    · rw [if_pos ((hp n (by omega)).mpr h), if_pos h, nI_add]
    · rw [if_neg (fun q => h ((hp n (by omega)).mp q)), if_neg h, Nat.add_zero]
theorem blU_e {E : Nat → Nat → Nat} {fp : Nat → Int32} {p : Nat → Int} (hp : ∀ v, v < 6 → (fp v < 0 ↔ p v < 0)) {v : Nat} : ∀ n, n ≤ 6 → blU E fp v n = nI (sumN (fun w => if p w < 0 then E v w else 0) n)
  | 0, _ => rfl
  | n + 1, hn => by
    have ih := blU_e (E := E) hp (v := v) n (by omega)
    show blU E fp v n + (if fp n < 0 then EN E v n else 0) = nI (sumN _ n + if p n < 0 then E v n else 0)
    rw [ih]
    by_cases h : p n < 0
    · rw [if_pos ((hp n (by omega)).mpr h), if_pos h]; exact nI_add _ _
    · rw [if_neg (fun q => h ((hp n (by omega)).mp q)), if_neg h, Nat.add_zero, Int32.add_zero]
theorem unb_le18 {E : Nat → Nat → Nat} (hE : ∀ i j, E i j ≤ 3) (p : Nat → Int) (v : Nat) : unb E p v ≤ 18 := by
  refine Nat.le_trans (sumN_le fun w _ => ?_) (dg18 hE v)
  show (if p w < 0 then E v w else 0) ≤ E v w
  split
  · exact Nat.le_refl _
  · exact Nat.zero_le _
theorem low_congr {P Q : Nat → Bool} {n : Nat} (h : ∀ v, v < n → P v = Q v) : low P n = low Q n := by
  cases hq : low Q n with
  | none => exact low_none.mpr fun v hv => by rw [h v hv]; exact low_none.mp hq v hv
  | some v =>
    obtain ⟨a, b, c⟩ := low_some.mp hq
    exact low_some.mpr ⟨a, by rw [h v a]; exact b, fun u hu => by rw [h u (by omega)]; exact c u hu⟩
/-- who can burn -/
theorem can_same {n : Nat} {E : Nat → Nat → Nat} (hG : Gr n E) {f fp : Nat → Int32} {g : Nat → Nat} {p : Nat → Int} (hp : ∀ v, v < 6 → (fp v < 0 ↔ p v < 0)) (hf : ∀ v, v < n → p v < 0 → f v = nI (g v)) (hg : ∀ v, v < n → g v < 2 ^ 30) : (∀ v, v < n → canI n (fjE E) f fp v = canB E g p v) ∧ ∀ v, v < n → blC E f fp v = canB E g p v := by
  have hn := hG.1
  have hu : ∀ v, v < n → unbI (fjE E) fp v n = nI (unb E p v) := fun v hv => by
    rw [unbI_e hp n hn]
    congr 1
    exact (sumN_cut6 hn fun j hj hj6 => by
      show (if p j < 0 then E v j else 0) = 0
      rw [hG.2.1, hG.2.2.2.1 j v hj]; exact ite_self 0).symm
  have hb : ∀ v, v < n → blU E fp v 6 = nI (unb E p v) := fun v _ => blU_e hp 6 (Nat.le_refl _)
  have h18 := fun v => unb_le18 hG.2.2.2.2 p v
  refine ⟨fun v hv => ?_, fun v hv => ?_⟩
  · unfold canI canB
    by_cases h : p v < 0
    · rw [decide_eq_true h, decide_eq_true ((hp v (by omega)).mpr h), Bool.true_and, Bool.true_and, decide_eq_decide, hu v hv, hf v hv h]
      exact nI_leI (by have := h18 v; omega) (by have := hg v hv; omega)
    · rw [decide_eq_false h, decide_eq_false (fun q => h ((hp v (by omega)).mp q))]; rfl
  · unfold blC canB
    by_cases h : p v < 0
    · rw [decide_eq_true h, decide_eq_true ((hp v (by omega)).mpr h), Bool.true_and, Bool.true_and, decide_eq_decide, hb v hv, hf v hv h, nI_ltI (by have := hg v hv; omega) (by have := h18 v; omega)]
      omega
    · rw [decide_eq_false h, decide_eq_false (fun q => h ((hp v (by omega)).mp q))]; rfl
/-- from above, the last one found is the lowest -/
theorem blO_low {E : Nat → Nat → Nat} {n : Nat} {f p : Nat → Int32} : ∀ d, d ≤ n → (blO E n f p d = none ↔ ∀ v, n - d ≤ v → v < n → blC E f p v = false) ∧ ∀ v, blO E n f p d = some v → (n - d ≤ v ∧ v < n ∧ blC E f p v = true ∧ ∀ u, n - d ≤ u → u < v → blC E f p u = false)
  | 0, _ => ⟨⟨fun _ v h1 h2 => absurd h1 (by omega), fun _ => rfl⟩, fun v h => by cases h⟩
  | d + 1, hd => by
    obtain ⟨i1, i2⟩ := blO_low (E := E) (n := n) (f := f) (p := p) d (by omega)
    by_cases h : blC E f p (n - 1 - d) = true
    · rw [blO_y h]
      refine ⟨⟨(fun q => by cases q), fun q => ?_⟩, fun v hv => ?_⟩
      · have := q (n - 1 - d) (by omega) (by omega)
        rw [h] at this; cases this
      · cases hv
        exact ⟨by omega, by omega, h, fun u h1 h2 => absurd h1 (by omega)⟩
    · rw [blO_n h]
      have hf := Bool.eq_false_iff.mpr h
      refine ⟨i1.trans ⟨fun q v h1 h2 => ?_, fun q v h1 h2 => q v (by omega) h2⟩, fun v hv => ?_⟩
      · by_cases e : v = n - 1 - d
        · rw [e]; exact hf
        · exact q v (by omega) h2
      · obtain ⟨b1, b2, b3, b4⟩ := i2 v hv
        refine ⟨by omega, b2, b3, fun u h1 h2 => ?_⟩
        by_cases e : u = n - 1 - d
        · rw [e]; exact hf
        · exact b4 u (by omega) h2
theorem blO_e {E : Nat → Nat → Nat} {n : Nat} {f p : Nat → Int32} : blO E n f p n = low (blC E f p) n := by
  obtain ⟨i1, i2⟩ := blO_low (E := E) (n := n) (f := f) (p := p) n (Nat.le_refl _)
  cases h : blO E n f p n with
  | none => exact (low_none.mpr fun v hv => i1.mp h v (by omega) hv).symm
  | some v =>
    obtain ⟨b1, b2, b3, b4⟩ := i2 v h
    exact (low_some.mpr ⟨b2, b3, fun u hu => b4 u (by omega) hu⟩).symm
theorem fir_z0 {n : Nat} {E : Nat → Nat → Nat} {g : Nat → Nat} {z k v : Nat} (h : fir n E g z k v < 0) : v ≠ z := fun q => by
  rw [q, fir_z k] at h
  exact absurd h (by decide)
theorem fire_go {n : Nat} {E : Nat → Nat → Nat} (hG : Gr n E) {z : Nat} (hz : z < n) {f : Nat → Int32} {g : Nat → Nat} (hf : ∀ v, v < n → v ≠ z → f v = nI (g v)) (hg : ∀ v, v < n → g v < 2 ^ 30) : ∀ k, k ≤ 6 → (∀ v, v < 6 → brnI n z (fjE E) f k v = iI (fir n E g z k v)) ∧ ∀ v, v < 6 → blP E n z f k v = iI (fir n E g z k v)
  | 0, _ => by
    have h : ∀ v : Nat, upd (fun _ => (-1 : Int32)) z 0 v = iI (fir n E g z 0 v) := fun v => by
      show _ = iI (if v = z then 0 else -1)
      by_cases q : v = z
      · subst q; rw [upd_s, if_pos rfl]; exact iI_0.symm
      · rw [upd_n _ _ q, if_neg q]; exact iI_m1.symm
    exact ⟨fun v _ => h v, fun v _ => h v⟩
  | k + 1, hk => by
    obtain ⟨i1, i2⟩ := fire_go hG hz hf hg k (by omega)
    have hbd := fun v => fir_bd (n := n) (E := E) (g := g) (z := z) k v
    have hp : ∀ (fp : Nat → Int32), (∀ v, v < 6 → fp v = iI (fir n E g z k v)) → ∀ v, v < 6 → (fp v < 0 ↔ fir n E g z k v < 0) := fun fp h v hv => by
      rw [h v hv]
      have := hbd v
      exact iI_lt0 (by omega) (by omega)
    have hf2 : ∀ v, v < n → fir n E g z k v < 0 → f v = nI (g v) := fun v hv h => hf v hv (fir_z0 h)
    have hstep : ∀ (fp : Nat → Int32) (o : Option Nat), (∀ v, v < 6 → fp v = iI (fir n E g z k v)) → o = low (canB E g (fir n E g z k)) n → ∀ v, v < 6 → (match o with | some u => upd fp u (nI (k + 1)) | none => fp) v = iI (fir n E g z (k + 1) v) := by
      intro fp o h ho v hv
      show _ = iI (fstp n E g (fir n E g z k) ((k : Int) + 1) v)
      subst ho
      cases hl : low (canB E g (fir n E g z k)) n with
      | none =>
        rw [fstp_none hl]
        exact h v hv
      | some u =>
        rw [fstp_some hl]
        show upd fp u (nI (k + 1)) v = iI (if v = u then (k : Int) + 1 else fir n E g z k v)
        by_cases e : v = u
        · subst e; rw [upd_s, if_pos rfl]; exact (iI_n (k + 1)).symm
        · rw [upd_n _ _ e, if_neg e]; exact h v hv
    refine ⟨fun v hv => ?_, fun v hv => ?_⟩
    · exact hstep _ _ i1 (low_congr (can_same hG (hp _ i1) hf2 hg).1) v hv
    · exact hstep _ _ i2 (blO_e.trans (low_congr (can_same hG (hp _ i2) hf2 hg).2)) v hv
/-- at the end: the class's places, the law's, and the fire's -/
theorem fire_eq {n : Nat} {E : Nat → Nat → Nat} (hG : Gr n E) {z : Nat} (hz : z < n) {f : Nat → Int32} {g : Nat → Nat} (hf : ∀ v, v < n → v ≠ z → f v = nI (g v)) (hg : ∀ v, v < n → g v < 2 ^ 30) {v : Nat} (hv : v < n) : brnI n z (fjE E) f (n - 1) v = iI (fir n E g z (n - 1) v) ∧ blP E n z f 6 v = iI (fir n E g z (n - 1) v) := by
  have hn := hG.1
  refine ⟨(fire_go hG hz hf hg (n - 1) (by omega)).1 v (by omega), ?_⟩
  rw [(fire_go hG hz hf hg 6 (Nat.le_refl _)).2 v (by omega), fir_same hz (k := n - 1) (m := 6) (by omega) (by omega)]
theorem fir_nn {n : Nat} {E : Nat → Nat → Nat} {g : Nat → Nat} {z k v : Nat} (hk : k ≤ 6) : 0 ≤ iI (fir n E g z k v) ↔ 0 ≤ fir n E g z k v := by
  have := fir_bd (n := n) (E := E) (g := g) (z := z) k v
  rw [show (0 : Int32) = iI 0 from iI_0.symm]
  exact iI_le (by omega) (by omega) (by omega) (by omega)
/-- the class's isAgain, the law's -/
theorem again_eq {n : Nat} {E : Nat → Nat → Nat} (hG : Gr n E) (hC : Conn n E) (hn2 : 2 ≤ n) {z : Nat} (hz : z < n) {c : Nat → Nat} (hb : ∀ v, v < n → c v < 2 ^ 30) {f : Nat → Int32} (hf : ∀ v, v < 6 → f v = nI (c v)) : agI n z (fjE E) (fdE E) f = aoV E z f (blP E n z f 6) n := by
  have hn := hG.1
  have hf2 : ∀ v, v < n → v ≠ z → f v = nI (c v) := fun v hv _ => hf v (by omega)
  have hE := hG.2.2.2.2
  have key : ∀ m, m ≤ n → (aoV E z f (blP E n z f 6) m = true ↔ ∀ v, v < m → 0 ≤ fir n E c z (n - 1) v ∧ (v = z ∨ c v < dg E v)) := by
    intro m
    induction m with
    | zero => exact fun _ => ⟨fun _ v h => absurd h (Nat.not_lt_zero _), fun _ => rfl⟩
    | succ m ih =>
      intro hm
      show (aoV E z f (blP E n z f 6) m && (decide (0 ≤ blP E n z f 6 m) && (decide (m = z) || decide (f m < nI (dg E m))))) = true ↔ _
      rw [Bool.and_eq_true, ih (by omega), Bool.and_eq_true, Bool.or_eq_true, decide_eq_true_eq, decide_eq_true_eq, decide_eq_true_eq, (fire_eq hG hz hf2 hb (show m < n by omega)).2, fir_nn (by omega), hf m (by omega), nI_ltI (by have := hb m (by omega); omega) (by have := dg18 hE m; omega)]
      constructor
      · rintro ⟨h1, h2⟩ v hv
        by_cases e : v = m
        · subst e; exact h2
        · exact h1 v (by omega)
      · exact fun h => ⟨fun v hv => h v (by omega), h m (by omega)⟩
  have key2 : agI n z (fjE E) (fdE E) f = true ↔ ∀ v, v < n → 0 ≤ fir n E c z (n - 1) v ∧ (v = z ∨ c v < dg E v) := by
    unfold agI
    rw [Bool.and_eq_true, sttl_iff, List.all_eq_true]
    constructor
    · rintro ⟨h1, h2⟩ v hv
      have h3 := of_decide_eq_true (h2 v (List.mem_range.mpr hv))
      rw [(fire_eq hG hz hf2 hb hv).1, fir_nn (by omega)] at h3
      refine ⟨h3, ?_⟩
      have h4 := h1 v hv
      have h5 := cTop_iff hE (z := z) (v := v) (hf v (by omega)) (by have := hb v hv; omega)
      rw [h4] at h5
      have hd := conn_dg hG hC hn2 hv
      by_cases hvz : v = z
      · exact Or.inl hvz
      · right
        rcases Nat.lt_or_ge (c v) (dg E v) with q | q
        · exact q
        · exact absurd (h5.mpr ⟨hvz, hd, q⟩) (by decide)
    · intro h
      refine ⟨fun v hv => Bool.eq_false_iff.mpr fun q => ?_, fun v hv => ?_⟩
      · obtain ⟨q1, q2, q3⟩ := (cTop_iff hE (z := z) (v := v) (hf v (by omega)) (by have := hb v hv; omega)).mp q
        rcases (h v hv).2 with r | r
        · exact q1 r
        · omega
      · have hv2 := List.mem_range.mp hv
        refine decide_eq_true ?_
        rw [(fire_eq hG hz hf2 hb hv2).1, fir_nn (by omega)]
        exact (h v hv2).1
  have := key n (Nat.le_refl _)
  cases h1 : agI n z (fjE E) (fdE E) f <;> cases h2 : aoV E z f (blP E n z f 6) n
  · rfl
  · rw [h1] at key2; rw [h2] at this
    exact absurd (key2.mpr (this.mp rfl)) (by decide)
  · rw [h1] at key2; rw [h2] at this
    exact absurd (this.mpr (key2.mp rfl)) (by decide)
  · rfl
