/-! DETERMINANTS: the code's elimination is exact -/
def lI (x : Int) : Int64 := Int64.ofInt x
theorem lI_toInt {x : Int} (h1 : -2 ^ 63 ≤ x) (h2 : x < 2 ^ 63) : (lI x).toInt = x := Int64.toInt_ofInt_of_le (by omega) (by omega)
theorem lI_add (x y : Int) : lI x + lI y = lI (x + y) := by unfold lI; rw [← Int64.ofInt_add]
theorem lI_sub (x y : Int) : lI x - lI y = lI (x - y) := by unfold lI; rw [← Int64.ofInt_sub]
theorem lI_mul (x y : Int) : lI x * lI y = lI (x * y) := by unfold lI; rw [← Int64.ofInt_mul]
theorem lI_neg (x : Int) : - lI x = lI (-x) := by unfold lI; rw [← Int64.ofInt_neg]
theorem lI_inj {x y : Int} (h1 : -2 ^ 63 ≤ x) (h2 : x < 2 ^ 63) (h3 : -2 ^ 63 ≤ y) (h4 : y < 2 ^ 63) : lI x = lI y ↔ x = y :=
  ⟨fun q => by rw [← lI_toInt h1 h2, ← lI_toInt h3 h4, q], fun q => by rw [q]⟩
theorem lI_0 : lI 0 = 0 := by decide
theorem lI_1 : lI 1 = 1 := by decide
theorem lI_z {x : Int} (h1 : -2 ^ 63 ≤ x) (h2 : x < 2 ^ 63) : lI x = 0 ↔ x = 0 := by
  rw [← lI_0]
  exact lI_inj h1 h2 (by omega) (by omega)
theorem lI_div {x p q : Int} (hx : x = p * q) (hp : p ≠ 0) (h1 : -2 ^ 63 ≤ x) (h2 : x < 2 ^ 63) (h3 : -2 ^ 63 ≤ p) (h4 : p < 2 ^ 63) : lI x / lI p = lI q := by
  apply Int64.toInt_inj.mp
  rw [Int64.toInt_div, lI_toInt h1 h2, lI_toInt h3 h4, hx, Int.mul_tdiv_cancel_left _ hp]
  exact Int64.toInt_ofInt.symm
theorem upL_s (f : Nat → Int64) (i : Nat) (x : Int64) : vp_updL f i x i = x := if_pos rfl
theorem upL_n (f : Nat → Int64) {i j : Nat} (x : Int64) (h : ¬ j = i) : vp_updL f i x j = f j := if_neg h
theorem clI_at {k r : Nat} {pb : Int64} {M : Nat → Int64} (hr : r ≠ k) : ∀ d, k + d ≤ 4 → ∀ a b, b < 5 → clI k r pb M d (a * 5 + b) = if a = r ∧ k < b ∧ b ≤ k + d then (M (r * 5 + b) * M (k * 5 + k) - M (r * 5 + k) * M (k * 5 + b)) / pb else M (a * 5 + b)
  | 0, _, a, b, _ => by
    rw [if_neg (by omega)]; rfl
  | d + 1, hd, a, b, hb => by
    have ih := clI_at (pb := pb) (M := M) hr d (by omega)
    show vp_updL (clI k r pb M d) (r * 5 + (k + 1 + d)) ((clI k r pb M d (r * 5 + (k + 1 + d)) * clI k r pb M d (k * 5 + k) - clI k r pb M d (r * 5 + k) * clI k r pb M d (k * 5 + (k + 1 + d))) / pb) (a * 5 + b) = _
    rw [ih r (k + 1 + d) (by omega), ih k k (by omega), ih r k (by omega), ih k (k + 1 + d) (by omega), if_neg (by omega), if_neg (by omega), if_neg (by omega), if_neg (by omega)]
    by_cases h : a = r ∧ b = k + 1 + d
    · obtain ⟨rfl, rfl⟩ := h
      rw [upL_s, if_pos ⟨rfl, by omega, by omega⟩]
    · rw [upL_n _ _ (by omega), ih a b hb]
      by_cases h2 : a = r ∧ k < b ∧ b ≤ k + d
      · rw [if_pos h2, if_pos ⟨h2.1, h2.2.1, by omega⟩]
      · rw [if_neg h2, if_neg (by omega)]
theorem clO_at {k s : Nat} {pb : Int64} {M : Nat → Int64} (hs : s ≤ 5) : ∀ d, k + 1 + d ≤ s → ∀ a b, b < 5 → clO k s pb M d (a * 5 + b) = if k < a ∧ a ≤ k + d ∧ k < b ∧ b < s then (M (a * 5 + b) * M (k * 5 + k) - M (a * 5 + k) * M (k * 5 + b)) / pb else M (a * 5 + b)
  | 0, _, a, b, _ => by
    rw [if_neg (by omega)]; rfl
  | d + 1, hd, a, b, hb => by
    have ih := clO_at (k := k) (pb := pb) (M := M) hs d (by omega)
    show clI k (k + 1 + d) pb (clO k s pb M d) (s - (k + 1)) (a * 5 + b) = _
    rw [clI_at (by omega) (s - (k + 1)) (by omega) a b hb]
    by_cases h : a = k + 1 + d ∧ k < b ∧ b ≤ k + (s - (k + 1))
    · obtain ⟨h1, h2, h3⟩ := h
      rw [if_pos ⟨h1, h2, h3⟩, if_pos ⟨by omega, by omega, h2, by omega⟩, ih (k + 1 + d) b hb, ih k k (by omega), ih (k + 1 + d) k (by omega), ih k b hb, if_neg (by omega), if_neg (by omega), if_neg (by omega), if_neg (by omega), h1]
    · rw [if_neg h, ih a b hb]
      by_cases h2 : k < a ∧ a ≤ k + d ∧ k < b ∧ b < s
      · rw [if_pos h2, if_pos ⟨h2.1, by omega, h2.2.2.1, h2.2.2.2⟩]
      · rw [if_neg h2, if_neg (by omega)]
theorem swM_at {M : Nat → Int64} {r k : Nat} (hr : r ≠ k) : ∀ c, c ≤ 5 → ∀ a b, b < 5 → swM M r k c (a * 5 + b) = if b < c then M (swf r k a * 5 + b) else M (a * 5 + b)
  | 0, _, a, b, _ => by rw [if_neg (Nat.not_lt_zero _)]; rfl
  | c + 1, hc, a, b, hb => by
    have ih := swM_at (M := M) hr c (by omega)
    show vp_updL (vp_updL (swM M r k c) (r * 5 + c) (swM M r k c (k * 5 + c))) (k * 5 + c) (swM M r k c (r * 5 + c)) (a * 5 + b) = _
    rw [ih k c (by omega), ih r c (by omega), if_neg (Nat.lt_irrefl _), if_neg (Nat.lt_irrefl _)]
    unfold swf
    by_cases h1 : a = k ∧ b = c
    · obtain ⟨rfl, rfl⟩ := h1
      rw [upL_s, if_pos (Nat.lt_succ_self _), if_neg (fun q => hr q.symm), if_pos rfl]
    · rw [upL_n _ _ (by omega)]
      by_cases h2 : a = r ∧ b = c
      · obtain ⟨rfl, rfl⟩ := h2
        rw [upL_s, if_pos (Nat.lt_succ_self _), if_pos rfl]
      · rw [upL_n _ _ (by omega), ih a b hb]
        unfold swf
        by_cases h3 : b < c
        · rw [if_pos h3, if_pos (show b < c + 1 by omega)]
        · rw [if_neg h3]
          by_cases h4 : b = c
          · rw [if_pos (show b < c + 1 by omega), if_neg (show ¬ a = r by omega), if_neg (show ¬ a = k by omega)]
          · rw [if_neg (show ¬ b < c + 1 by omega)]
def bq (pl : Nat) (j : Nat) : Int := if j = pl then 2000 else 15
theorem bq_nn (pl j : Nat) : 0 ≤ bq pl j := by unfold bq; split <;> decide
theorem bq_all : (List.range 6).all (fun pl => (List.range 5).all fun k => (List.range 5).all fun j => decide (j < k) || (decide (fct (k + 1) * prodI (fun c => bq pl (if c < k then c else j)) (k + 1) ≤ 2 ^ 40) && (decide (3 < k) || decide (fct (k + 1) * prodI (fun c => bq pl (if c < k then c else j)) (k + 1) ≤ 2 ^ 30)))) = true := by decide +kernel
theorem bm_bd {pl k i j s : Nat} (hpl : pl < 6) (hs : s ≤ 5) (hk : k < s) (hi : i < s) (hj : j < s) (hkj : k ≤ j) {A : Nat → Nat → Int} (hA : ∀ i j, i < s → j < s → -(bq pl j) ≤ A i j ∧ A i j ≤ bq pl j) : (-2 ^ 40 ≤ bm k A i j ∧ bm k A i j ≤ 2 ^ 40) ∧ (k ≤ 3 → -2 ^ 30 ≤ bm k A i j ∧ bm k A i j ≤ 2 ^ 30) := by
  have h := List.all_eq_true.mp (List.all_eq_true.mp (List.all_eq_true.mp bq_all pl (List.mem_range.mpr hpl)) k (List.mem_range.mpr (by omega))) j (List.mem_range.mpr (by omega))
  rw [decide_eq_false (show ¬ j < k by omega), Bool.false_or, Bool.and_eq_true, decide_eq_true_eq, Bool.or_eq_true, decide_eq_true_eq, decide_eq_true_eq] at h
  have hb := det_bound (m := k + 1) (A := fun r c => A (if r < k then r else i) (if c < k then c else j)) (b := fun c => bq pl (if c < k then c else j)) (fun c => bq_nn _ _) fun r c _ _ => hA _ _ (by split <;> omega) (by split <;> omega)
  have hu : bm k A i j = det (k + 1) (fun r c => A (if r < k then r else i) (if c < k then c else j)) := rfl
  rw [← hu] at hb
  generalize fct (k + 1) * prodI (fun c => bq pl (if c < k then c else j)) (k + 1) = B at h hb
  obtain ⟨h1, h2⟩ := h
  constructor
  · omega
  · intro h3
    have := h2.resolve_left (by omega)
    omega
def DtI (pl s k : Nat) (A : Nat → Nat → Int) (T : (Nat → Int64) × Int64 × Int64) : Prop :=
  ∃ A' : Nat → Nat → Int, ∃ g : Int, (g = 1 ∨ g = -1) ∧ det s A' = g * det s A ∧ T.2.1 = lI g ∧ T.2.2 = lI (det k A') ∧ det k A' ≠ 0 ∧ (∀ i j, i < s → j < s → -(bq pl j) ≤ A' i j ∧ A' i j ≤ bq pl j) ∧ ∀ i j, k ≤ i → i < s → k ≤ j → j < s → T.1 (i * 5 + j) = lI (bm k A' i j)
theorem bm_0 (A : Nat → Nat → Int) (i j : Nat) : bm 0 A i j = A i j := by
  rw [bm_eq]
  show 1 * A i j + 0 = A i j
  rw [Int.one_mul, Int.add_zero]
theorem det_bd {pl k s : Nat} (hpl : pl < 6) (hs : s ≤ 5) (hk : k ≤ s) {A : Nat → Nat → Int} (hA : ∀ i j, i < s → j < s → -(bq pl j) ≤ A i j ∧ A i j ≤ bq pl j) : -2 ^ 40 ≤ det k A ∧ det k A ≤ 2 ^ 40 := by
  cases k with
  | zero => exact ⟨(by decide : (-2 ^ 40 : Int) ≤ 1), (by decide : (1 : Int) ≤ 2 ^ 40)⟩
  | succ k =>
    rw [← bm_self]
    exact (bm_bd hpl hs (by omega) (by omega) (by omega) (Nat.le_refl _) hA).1
/-- clearing below a pivot -/
theorem clr_go {pl s k : Nat} (hpl : pl < 6) (hs : s ≤ 5) (hk : k < s) {A : Nat → Nat → Int} {M : Nat → Int64} (hp : det k A ≠ 0) (hA : ∀ i j, i < s → j < s → -(bq pl j) ≤ A i j ∧ A i j ≤ bq pl j) (hM : ∀ i j, k ≤ i → i < s → k ≤ j → j < s → M (i * 5 + j) = lI (bm k A i j)) :
    clr k s (lI (det k A)) M (k * 5 + k) = lI (det (k + 1) A) ∧ ∀ i j, k + 1 ≤ i → i < s → k + 1 ≤ j → j < s → clr k s (lI (det k A)) M (i * 5 + j) = lI (bm (k + 1) A i j) := by
  have hd := det_bd hpl hs (Nat.le_of_lt hk) hA
  have hne : ¬ lI (det k A) = 0 := fun q => hp ((lI_z (by omega) (by omega)).mp q)
  unfold clr
  rw [if_neg hne]
  constructor
  · rw [clO_at hs _ (by omega) k k (by omega), if_neg (by omega), hM k k (Nat.le_refl _) hk (Nat.le_refl _) hk, bm_self]
  · intro i j hi his hj hjs
    rw [clO_at hs _ (by omega) i j (by omega), if_pos ⟨by omega, by omega, by omega, hjs⟩, hM i j (by omega) his (by omega) hjs, hM k k (Nat.le_refl _) hk (Nat.le_refl _) hk, hM i k (by omega) his (Nat.le_refl _) hk, hM k j (Nat.le_refl _) hk (by omega) hjs, lI_mul, lI_mul, lI_sub]
    have b1 := (bm_bd hpl hs hk his hjs (by omega) hA).2 (by omega)
    have b2 := (bm_bd hpl hs hk hk hk (Nat.le_refl _) hA).2 (by omega)
    have b3 := (bm_bd hpl hs hk his hk (Nat.le_refl _) hA).2 (by omega)
    have b4 := (bm_bd hpl hs hk hk hjs (by omega) hA).2 (by omega)
    have hst := bareiss_step hp i j
    have hmul : ∀ {x y : Int}, (-2 ^ 30 ≤ x ∧ x ≤ 2 ^ 30) → (-2 ^ 30 ≤ y ∧ y ≤ 2 ^ 30) → -2 ^ 60 ≤ x * y ∧ x * y ≤ 2 ^ 60 := by
      intro x y hx hy
      have h : (x * y).natAbs ≤ 2 ^ 30 * 2 ^ 30 := by
        rw [Int.natAbs_mul]
        exact Nat.mul_le_mul (by omega) (by omega)
      omega
    have c1 := hmul b1 b2
    have c2 := hmul b3 b4
    refine lI_div ?_ hp (by omega) (by omega) (by omega) (by omega)
    rw [hst, Int.mul_comm (bm k A i j)]
theorem dtS_go {pl s k : Nat} (hpl : pl < 6) (hs : s ≤ 5) (hk : k < s) {A : Nat → Nat → Int} {T : (Nat → Int64) × Int64 × Int64} (h : DtI pl s k A T) : (dtS s k T = none ∧ det s A = 0) ∨ ∃ T', dtS s k T = some T' ∧ DtI pl s (k + 1) A T' := by
  obtain ⟨A', g, hg, hdet, h1, h2, hp, hA, hM⟩ := h
  have hz : ∀ r, k ≤ r → r < s → (T.1 (r * 5 + k) = 0 ↔ bm k A' r k = 0) := fun r hr hrs => by
    rw [hM r k hr hrs (Nat.le_refl _) hk]
    have := (bm_bd hpl hs hk hrs hk (Nat.le_refl _) hA).1
    exact lI_z (by omega) (by omega)
  unfold dtS
  cases hO : pvO T.1 k s with
  | none =>
    refine Or.inl ⟨rfl, ?_⟩
    have h3 := low_none.mp hO
    have h4 := bareiss_none hp (s - k) (by omega) fun i hi his => by
      have := h3 i (by omega)
      rw [decide_eq_true hi, Bool.true_and, decide_eq_false_iff_not, Decidable.not_not] at this
      exact (hz i hi (by omega)).mp this
    rw [show k + (s - k) = s by omega, hdet] at h4
    rcases hg with rfl | rfl <;> omega
  | some r =>
    right
    obtain ⟨r1, r2, _⟩ := low_some.mp hO
    rw [Bool.and_eq_true, decide_eq_true_eq, decide_eq_true_eq] at r2
    have hne : bm k A' r k ≠ 0 := fun q => r2.2 ((hz r r2.1 r1).mpr q)
    by_cases hrk : r = k
    · subst hrk
      rw [h2]
      obtain ⟨c1, c2⟩ := clr_go hpl hs hk hp hA hM
      refine ⟨_, if_pos rfl, A', g, hg, hdet, h1, c1, ?_, hA, c2⟩
      rw [← bm_self]; exact hne
    · have hsw : ∀ i, i < s → swf r k i < s := fun i hi => by unfold swf; split <;> (try split) <;> omega
      have hlo : ∀ i, i < k → swf r k i = i := fun i hi => by unfold swf; rw [if_neg (by omega), if_neg (by omega)]
      have hdk : det k (fun i c => A' (swf r k i) c) = det k A' := det_congr fun i j hi _ => by rw [hlo i hi]
      have hbm : ∀ i j, bm k (fun i c => A' (swf r k i) c) i j = bm k A' (swf r k i) j := fun i j => det_congr fun a b _ _ => by
        show A' (swf r k (if a < k then a else i)) (if b < k then b else j) = A' (if a < k then a else swf r k i) (if b < k then b else j)
        by_cases h : a < k
        · rw [if_pos h, if_pos h, hlo a h]
        · rw [if_neg h, if_neg h]
      have hge : ∀ i, k ≤ i → k ≤ swf r k i := fun i hi => by unfold swf; split <;> (try split) <;> omega
      rw [h2, ← hdk]
      obtain ⟨c1, c2⟩ := clr_go (A := fun i c => A' (swf r k i) c) (M := swM T.1 r k s) hpl hs hk (by rw [hdk]; exact hp) (fun i j hi hj => hA _ _ (hsw i hi) hj) fun i j hi his hj hjs => by
        rw [swM_at hrk s hs i j (by omega), if_pos hjs, hbm]
        exact hM _ _ (hge i hi) (hsw i his) hj hjs
      refine ⟨_, if_neg hrk, (fun i c => A' (swf r k i) c), -g, by omega, ?_, ?_, c1, ?_, fun i j hi hj => hA _ _ (hsw i hi) hj, c2⟩
      · rw [det_swap A' hrk r1 hk, hdet, Int.neg_mul]
      · show - T.2.1 = lI (-g)
        rw [h1, lI_neg]
      · rw [← bm_self, hbm]
        have : swf r k k = r := by unfold swf; rw [if_neg (fun q => hrk q.symm), if_pos rfl]
        rw [this]; exact hne
theorem dtN_go {pl s : Nat} (hpl : pl < 6) (hs : s ≤ 5) {A : Nat → Nat → Int} {M : Nat → Int64} (hA : ∀ i j, i < s → j < s → -(bq pl j) ≤ A i j ∧ A i j ≤ bq pl j) (hM : ∀ i j, i < s → j < s → M (i * 5 + j) = lI (A i j)) : ∀ k, k ≤ s → (dtN s M k = none ∧ det s A = 0) ∨ ∃ T, dtN s M k = some T ∧ DtI pl s k A T
  | 0, _ => Or.inr ⟨(M, 1, 1), rfl, A, 1, Or.inl rfl, (Int.one_mul _).symm, lI_1.symm, lI_1.symm, (by decide : (1 : Int) ≠ 0), hA, fun i j _ hi _ hj => by rw [bm_0]; exact hM i j hi hj⟩
  | k + 1, hk => by
    show ((dtN s M k).bind (dtS s k) = none ∧ _) ∨ ∃ T, (dtN s M k).bind (dtS s k) = some T ∧ _
    rcases dtN_go hpl hs hA hM k (by omega) with ⟨h1, h2⟩ | ⟨T, h1, h2⟩
    · exact Or.inl ⟨by rw [h1]; rfl, h2⟩
    · rw [h1]
      exact dtS_go hpl hs (by omega) h2
theorem dtV_go {pl s : Nat} (hpl : pl < 6) (hs : s ≤ 5) {A : Nat → Nat → Int} {M : Nat → Int64} (hA : ∀ i j, i < s → j < s → -(bq pl j) ≤ A i j ∧ A i j ≤ bq pl j) (hM : ∀ i j, i < s → j < s → M (i * 5 + j) = lI (A i j)) : dtV s M = lI (det s A) := by
  unfold dtV
  rcases dtN_go hpl hs hA hM s (Nat.le_refl _) with ⟨h1, h2⟩ | ⟨T, h1, A', g, hg, hdet, h3, h4, _⟩
  · rw [h1, h2, lI_0]
  · rw [h1]
    show T.2.1 * T.2.2 = _
    rw [h3, h4, lI_mul, hdet]
    rcases hg with rfl | rfl
    · rw [Int.one_mul, Int.one_mul]
    · rw [Int.neg_mul, Int.one_mul, Int.neg_mul, Int.one_mul, Int.neg_neg]
