/-! THE RANK: the loops over the losses find it -/
theorem rinv_fin {n : Nat} {E : Nat → Nat → Nat} (hG : Gr n E) (hC : Conn n E) (hn : 2 ≤ n) {z : Nat} (hz : z < n) {D : Nat → Int} {lost : Nat} {r : Int} {x : Nat → Nat} (h : RInv n E z D lost r x) (hr : r < (lost : Int)) : IsRk n E D r :=
  rinv_rank hG hC hn hz h.1 h.2.1 fun y g hy hR hs => h.2.2 y g hy hR (Or.inl (by omega))
theorem prF_at {z : Nat} {f fl : Nat → Int32} : ∀ m j, prF z f fl m j = if j ≠ z ∧ ∃ i, i < m ∧ j = skp z i then f j + fl (if j < z then j else j - 1) else f j
  | 0, j => by rw [if_neg (fun q => by obtain ⟨_, i, hi, _⟩ := q; exact absurd hi (Nat.not_lt_zero _))]; rfl
  | m + 1, j => by
    have ih := prF_at (z := z) (f := f) (fl := fl) m
    show upd (prF z f fl m) (skp z m) (prF z f fl m (skp z m) + fl m) j = _
    by_cases hj : j = skp z m
    · have hne : j ≠ z := by rw [hj]; exact skp_ne z m
      have hno : ¬ (skp z m ≠ z ∧ ∃ i, i < m ∧ skp z m = skp z i) := fun q => by
        obtain ⟨_, i, hi, he⟩ := q
        unfold skp at he; split at he <;> split at he <;> omega
      have hm : (if j < z then j else j - 1) = m := by
        have hj2 := hj
        unfold skp at hj2
        by_cases q : m < z
        · rw [if_pos q] at hj2
          rw [if_pos (show j < z by omega)]; exact hj2
        · rw [if_neg q] at hj2
          rw [if_neg (show ¬ j < z by omega)]; omega
      rw [hm, if_pos ⟨hne, m, by omega, hj⟩, hj, upd_s, ih (skp z m), if_neg hno]
    · rw [upd_n _ _ hj, ih j]
      by_cases h : j ≠ z ∧ ∃ i, i < m ∧ j = skp z i
      · obtain ⟨h1, i, h2, h3⟩ := h
        rw [if_pos (show j ≠ z ∧ ∃ i, i < m ∧ j = skp z i from ⟨h1, i, h2, h3⟩), if_pos (show j ≠ z ∧ ∃ i, i < m + 1 ∧ j = skp z i from ⟨h1, i, by omega, h3⟩)]
      · rw [if_neg h, if_neg (fun q : j ≠ z ∧ ∃ i, i < m + 1 ∧ j = skp z i => by
          obtain ⟨h1, i, h2, h3⟩ := q
          exact h ⟨h1, i, by
            rcases Nat.lt_or_ge i m with q | q
            · exact q
            · exact absurd (by rw [h3, show i = m by omega]) hj, h3⟩)]
/-- the row with the losses upon it -/
theorem prF_on {n z : Nat} (hz : z < n) {f fl : Nat → Int32} {g x : Nat → Nat} (hf : ∀ j, j < 6 → f j = nI (g j)) (hfl : ∀ j, j < 6 → fl j = nI (x j)) (hx : ∀ j, n ≤ j + 1 → x j = 0) (hg : g z = 0) {j : Nat} (hj : j < 6) : prF z f fl (n - 1) j = nI (g j + onP z x j) := by
  rw [prF_at]
  unfold onP
  by_cases hjz : j = z
  · rw [if_neg (fun q => q.1 hjz), if_pos hjz, Nat.add_zero]
    exact hf j hj
  · rw [if_neg hjz]
    by_cases hjn : j < n
    · have hex : j ≠ z ∧ ∃ i, i < n - 1 ∧ j = skp z i := ⟨hjz, by
        by_cases h : j < z
        · exact ⟨j, by omega, by unfold skp; rw [if_pos h]⟩
        · exact ⟨j - 1, by omega, by unfold skp; rw [if_neg (show ¬ j - 1 < z by omega)]; omega⟩⟩
      rw [if_pos hex, hf j hj]
      by_cases h : j < z
      · rw [if_pos h, if_pos h, hfl j hj, nI_add]
      · rw [if_neg h, if_neg h, hfl (j - 1) (by omega), nI_add]
    · rw [if_neg (fun q => by obtain ⟨_, i, hi, he⟩ := q; unfold skp at he; split at he <;> omega), if_neg (by omega), hx (j - 1) (by omega), Nat.add_zero]
      exact hf j hj
theorem rdv_low {n : Nat} {E : Nat → Nat → Nat} (hG : Gr n E) {z : Nat} {t : Int} {g : Nat → Nat} : t - 90 ≤ rdv n E z t g z := by
  have hn := hG.1
  unfold rdv
  rw [if_pos rfl]
  have h : ∀ m, m ≤ 6 → sI (fun w => if w = z then 0 else (dg E w : Int) - 1 - g w) m ≤ 15 * (m : Int) := by
    intro m
    induction m with
    | zero => intro _; exact Int.le_refl _
    | succ m ih =>
      intro hm
      have h1 := ih (by omega)
      have h2 := dg_le hG m
      show sI _ m + (if m = z then 0 else (dg E m : Int) - 1 - g m) ≤ 15 * ((m + 1 : Nat) : Int)
      split <;> omega
  have := h n hn
  omega
/-- the next sharing is the next one -/
theorem nlO_e {n : Nat} {fl : Nat → Int32} {x : Nat → Nat} (hn : n ≤ 6) (hfl : ∀ j, j < 6 → fl j = nI (x j)) (hx : ∀ j, x j < 2 ^ 30) : (nlO fl n = none → ∀ j, j + 2 < n → x j = 0) ∧ ∀ i, nlO fl n = some i → i + 2 < n ∧ 0 < x i ∧ (∀ j, j < i → x j = 0) ∧ ∀ j, j < 6 → nlF fl n j = nI (nxt x i j) := by
  have hp : ∀ j, j < 6 → (decide (0 < fl j) = true ↔ 0 < x j) := fun j hj => by
    rw [decide_eq_true_eq, hfl j hj]
    constructor
    · intro q; exact Nat.pos_of_ne_zero fun e => by rw [e] at q; exact absurd q (by decide)
    · intro q; exact Int32.not_le.mp (nI_nle q (by have := hx j; omega))
  constructor
  · intro h j hj
    have := low_none.mp h j (by omega)
    refine Nat.eq_zero_of_not_pos fun q => ?_
    rw [(hp j (by omega)).mpr q] at this
    cases this
  · intro i h
    obtain ⟨h1, h2, h3⟩ := low_some.mp h
    have hxi := (hp i (by omega)).mp h2
    refine ⟨by omega, hxi, fun j hj => ?_, fun j hj => ?_⟩
    · have := h3 j hj
      refine Nat.eq_zero_of_not_pos fun q => ?_
      rw [(hp j (by omega)).mpr q] at this
      cases this
    · unfold nlF
      rw [h]
      show upd (upd (upd fl i 0) 0 (fl i - 1)) (i + 1) (upd (upd fl i 0) 0 (fl i - 1) (i + 1) + 1) j = nI (nxt x i j)
      have hsub : fl i - 1 = nI (x i - 1) := by rw [hfl i (by omega)]; exact pk_sub (a := x i) (b := 1) (by omega)
      unfold nxt
      by_cases hj1 : j = i + 1
      · rw [hj1, upd_s, upd_n _ _ (by omega), upd_n _ _ (by omega), if_neg (by omega), if_neg (by omega), if_pos rfl, hfl (i + 1) (by omega), nI_1]
      · rw [upd_n _ _ hj1]
        by_cases hj0 : j = 0
        · rw [hj0, upd_s, if_pos rfl, hsub]
        · rw [upd_n _ _ hj0, if_neg hj0]
          by_cases hji : j = i
          · rw [hji, upd_s, if_pos rfl, nI_0]
          · rw [upd_n _ _ hji, if_neg hji, if_neg hj1, hfl j hj]
theorem sm5_get {x : Nat → Nat} {n : Nat} (hn : n ≤ 6) (hx : ∀ j, n ≤ j + 1 → x j = 0) (j : Nat) : x j ≤ sm5 x := by
  unfold sm5
  rcases (show j = 0 ∨ j = 1 ∨ j = 2 ∨ j = 3 ∨ j = 4 ∨ 5 ≤ j by omega) with rfl | rfl | rfl | rfl | rfl | h
  · omega
  · omega
  · omega
  · omega
  · omega
  · rw [hx j (by omega)]; omega
/-- one sharing tried -/
theorem lf_go {n : Nat} {E : Nat → Nat → Nat} (hG : Gr n E) (hC : Conn n E) (hn2 : 2 ≤ n) {z : Nat} (hz : z < n) {D : Nat → Int} {g0 : Nat → Nat} (hR0 : Rep n E z (fun v => (dg E v : Int) - 1 - D v) g0) (hlt : ∀ v, v < n → v ≠ z → g0 v < dg E v) (hgz : g0 z = 0) (hgo : ∀ j, n ≤ j → g0 j = 0) {f : Nat → Int32} (hf : ∀ j, j < 6 → f j = nI (g0 j)) {fl : Nat → Int32} {x : Nat → Nat} (hfl : ∀ j, j < 6 → fl j = nI (x j)) (hx : ∀ j, n ≤ j + 1 → x j = 0) (hs : sm5 x ≤ 8) :
    ∃ g, Rep n E z (mrow E D (onP z x)) g ∧ lfI (fjE E) (fdE E) n z f (iI (sI D n)) fl = iI (rdv n E z (sI D n) g z) := by
  have hn := hG.1
  have hd15 := fun v => dg_le hG v
  let c : Nat → Nat := fun j => if n ≤ j then 0 else g0 j + onP z x j
  have hon : ∀ j, n ≤ j → onP z x j = 0 := fun j hj => by
    unfold onP
    rw [if_neg (by omega), if_neg (by omega)]
    exact hx _ (by omega)
  have hce : ∀ j, c j = g0 j + onP z x j := fun j => by
    show (if n ≤ j then 0 else _) = _
    split
    · next h => rw [hgo j h, hon j h]
    · rfl
  have hcz : c z = 0 := by rw [hce, hgz]; unfold onP; rw [if_pos rfl]
  have hle : ∀ v, v < n → c v ≤ 23 := fun v hv => by
    by_cases hvz : v = z
    · rw [hvz, hcz]; omega
    · have h1 := hlt v hv hvz
      have h2 := hd15 v
      have h3 : onP z x v ≤ 8 := by
        unfold onP
        rw [if_neg hvz]
        split
        · exact Nat.le_trans (sm5_get hn hx _) hs
        · exact Nat.le_trans (sm5_get hn hx _) hs
      rw [hce]; omega
  have hT := sum_le5 (b := 23) hn hz hcz (fun v hv => if_pos hv) hle
  obtain ⟨g, k, ⟨a1, a2, a3, a4⟩, l1, s1⟩ := settle_cls hG hC hz (ord_lo (n := n)).1 ord_lo.2 hcz (by omega) (f := prF z f fl (n - 1)) (ct := fun _ => 0) (tk := 0) (fun j hj => by rw [prF_on hz hf hfl hx hgz hj, hce])
  have hR := rep_more hG hR0 (e := onP z x) (fun j _ => hce j) l1 s1
  refine ⟨g, hR.congr fun v _ _ => rfl, ?_⟩
  unfold lfI
  have hsk := skI_e (n := n) (E := E) (z := z) (f := (prS (fjE E) (fdE E) n z f fl).1) (g := g) (x := sI D n) (n - 1) fun i hi => by
    have h1 := skp_lt (j := z) hi
    show (stA n z (fjE E) (fdE E) (fun i9 => i9) mR (prF z f fl (n - 1), fun _ => 0, 0, 0)).1 (skp z i) = _
    rw [a1 _ (by omega), if_neg (skp_ne z i)]
  rw [hsk]
  unfold rdv
  rw [if_pos rfl, sI_oth hz]
/-- the loop over the sharings of so many losses -/
theorem rw_go {n : Nat} {E : Nat → Nat → Nat} (hG : Gr n E) (hC : Conn n E) (hn2 : 2 ≤ n) {z : Nat} (hz : z < n) {D : Nat → Int} {g0 : Nat → Nat} (hR0 : Rep n E z (fun v => (dg E v : Int) - 1 - D v) g0) (hlt : ∀ v, v < n → v ≠ z → g0 v < dg E v) (hgz : g0 z = 0) (hgo : ∀ j, n ≤ j → g0 j = 0) {f : Nat → Int32} (hf : ∀ j, j < 6 → f j = nI (g0 j)) (ht0 : 0 ≤ sI D n) (ht : sI D n ≤ 8) {lost : Nat} (hl : lost ≤ 8) :
    ∀ m (x : Nat → Nat) (fl : Nat → Int32) (r : Int), 52488 < V9 x + m → (∀ j, j < 6 → fl j = nI (x j)) → (∀ j, n ≤ j + 1 → x j = 0) → sm5 x = lost → RInv n E z D lost r x → r ≤ 8 →
    ∃ r', rwL (fjE E) (fdE E) n z f lost (iI (sI D n)) m fl (iI r) true = iI r' ∧ -1 ≤ r' ∧ r' ≤ 8 ∧ ((∀ x' : Nat → Nat, (∀ j, 0 < j → x' j = 0) → x' 0 = lost + 1 → RInv n E z D (lost + 1) r' x') ∨ (r' < (lost : Int) ∧ IsRk n E D r'))
  | 0, x, fl, r, hV, _, _, hs, _, _ => by have := V9_le (x := x) (by omega); omega
  | m + 1, x, fl, r, hV, hfl, hx, hs, hI, hr => by
    have hn := hG.1
    have hc : (iI r < nI lost) ↔ r < (lost : Int) := by
      have := hI.1
      rw [← iI_n]
      exact iI_lt (by omega) (by omega) (by omega) (by omega)
    by_cases hlr : r < (lost : Int)
    · refine ⟨r, ?_, hI.1, hr, Or.inr ⟨hlr, rinv_fin hG hC hn2 hz hI hlr⟩⟩
      show (if true = true ∧ ¬ iI r < nI lost then _ else iI r) = iI r
      rw [if_neg (fun q => q.2 (hc.mpr hlr))]
    · obtain ⟨g, hR, hlf⟩ := lf_go hG hC hn2 hz hR0 hlt hgz hgo hf hfl hx (by omega)
      have hlo := rdv_low hG (z := z) (t := sI D n) (g := g)
      have hhi := rdv_le hG hC hn2 (t := sI D n) hR.1 (z := z)
      let r2 : Int := if rdv n E z (sI D n) g z < r then max (rdv n E z (sI D n) g z) ((lost : Int) - 1) else r
      have hst := rinv_step hG hC hn2 hz hI (by omega) hx hs hR (r' := r2) rfl
      have hr2 : -1 ≤ r2 ∧ r2 ≤ 8 := by
        refine ⟨hst.1, ?_⟩
        show (if _ then _ else r) ≤ 8
        split
        · exact Int.max_le.mpr ⟨by omega, by omega⟩
        · exact hr
      have hrk : rkN (lfI (fjE E) (fdE E) n z f (iI (sI D n)) fl) (iI r) lost = iI r2 := by
        have h1 := hI.1
        unfold rkN
        rw [hlf, ← iI_n, show (1 : Int32) = iI 1 by decide, iI_sub]
        show _ = iI (if _ then _ else r)
        have e1 : iI (rdv n E z (sI D n) g z) < iI r ↔ rdv n E z (sI D n) g z < r := iI_lt (by omega) (by omega) (by omega) (by omega)
        have e2 : iI (rdv n E z (sI D n) g z) < iI ((lost : Int) - 1) ↔ rdv n E z (sI D n) g z < (lost : Int) - 1 := iI_lt (by omega) (by omega) (by omega) (by omega)
        by_cases h2 : rdv n E z (sI D n) g z < r
        · rw [if_pos (e1.mpr h2), if_pos h2]
          by_cases h3 : rdv n E z (sI D n) g z < (lost : Int) - 1
          · rw [if_pos (e2.mpr h3), Int.max_eq_right (by omega)]
          · rw [if_neg (fun q => h3 (e2.mp q)), Int.max_eq_left (by omega)]
        · rw [if_neg (fun q => h2 (e1.mp q)), if_neg h2]
      have hstep : rwL (fjE E) (fdE E) n z f lost (iI (sI D n)) (m + 1) fl (iI r) true = rwL (fjE E) (fdE E) n z f lost (iI (sI D n)) m (nlF fl n) (iI r2) (nlB fl n) := by
        show (if true = true ∧ ¬ iI r < nI lost then _ else iI r) = _
        rw [if_pos ⟨rfl, fun q => hlr (hc.mp q)⟩, hrk]
      rw [hstep]
      obtain ⟨n1, n2⟩ := nlO_e hn hfl (fun j => by have := sm5_get hn hx j; omega)
      cases hO : nlO fl n with
      | none =>
        have hB : nlB fl n = false := by unfold nlB; rw [hO]; rfl
        refine ⟨r2, ?_, hr2.1, hr2.2, Or.inl fun x' h1 h2 => rinv_end hn2 hn hst hs hx (n1 hO) h1 h2⟩
        rw [hB]
        cases m with
        | zero => rfl
        | succ m => show (if false = true ∧ _ then _ else iI r2) = iI r2; exact if_neg (fun q => Bool.false_ne_true q.1)
      | some i =>
        have hB : nlB fl n = true := by unfold nlB; rw [hO]; rfl
        obtain ⟨i1, i2, i3, i4⟩ := n2 i hO
        obtain ⟨s1, _, s3⟩ := nxt_step (x := x) (y := x) (i := i) (by omega) i3 i2
        have hV2 := s3 (by omega)
        rw [hB]
        refine rw_go hG hC hn2 hz hR0 hlt hgz hgo hf ht0 ht hl m (nxt x i) (nlF fl n) r2 (by omega) i4 (fun j hj => ?_) (by rw [s1]; exact hs) (rinv_next hst hs (by omega) i3 i2) hr2.2
        unfold nxt
        rw [if_neg (by omega), if_neg (by omega), if_neg (by omega)]
        exact hx j hj
/-- the loop over the losses -/
theorem rk_go {n : Nat} {E : Nat → Nat → Nat} (hG : Gr n E) (hC : Conn n E) (hn2 : 2 ≤ n) {z : Nat} (hz : z < n) {D : Nat → Int} {g0 : Nat → Nat} (hR0 : Rep n E z (fun v => (dg E v : Int) - 1 - D v) g0) (hlt : ∀ v, v < n → v ≠ z → g0 v < dg E v) (hgz : g0 z = 0) (hgo : ∀ j, n ≤ j → g0 j = 0) {f : Nat → Int32} (hf : ∀ j, j < 6 → f j = nI (g0 j)) (ht0 : 0 ≤ sI D n) (ht : sI D n ≤ 8) :
    ∀ d l (r : Int), l + d = 9 → -1 ≤ r → r ≤ 8 → ((∀ x' : Nat → Nat, (∀ j, 0 < j → x' j = 0) → x' 0 = l → RInv n E z D l r x') ∨ (r < (l : Int) ∧ IsRk n E D r)) → ∃ r', rkL (fjE E) (fdE E) n z f (iI (sI D n)) d l (iI r) = iI r' ∧ -1 ≤ r' ∧ r' ≤ 8 ∧ IsRk n E D r'
  | 0, l, r, hd, h1, h2, h => by
    refine ⟨r, rfl, h1, h2, ?_⟩
    rcases h with h | h
    · exact rinv_fin hG hC hn2 hz (h (fun j => if j = 0 then l else 0) (fun j hj => if_neg (by omega)) (if_pos rfl)) (by omega)
    · exact h.2
  | d + 1, l, r, hd, h1, h2, h => by
    have hn := hG.1
    have hc : (nI l ≤ iI r) ↔ (l : Int) ≤ r := by
      rw [← iI_n]
      exact iI_le (by omega) (by omega) (by omega) (by omega)
    by_cases hlr : r < (l : Int)
    · refine ⟨r, ?_, h1, h2, ?_⟩
      · show (if nI l ≤ iI r then _ else iI r) = iI r
        rw [if_neg (fun q => by have := hc.mp q; omega)]
      · rcases h with h | h
        · exact rinv_fin hG hC hn2 hz (h (fun j => if j = 0 then l else 0) (fun j hj => if_neg (by omega)) (if_pos rfl)) hlr
        · exact h.2
    · have hA : ∀ x' : Nat → Nat, (∀ j, 0 < j → x' j = 0) → x' 0 = l → RInv n E z D l r x' := h.resolve_right (fun q => hlr q.1)
      have hx0 : ∀ j, n ≤ j + 1 → (fun j : Nat => if j = 0 then l else 0) j = 0 := fun j hj => if_neg (by omega)
      obtain ⟨r', e, b1, b2, b3⟩ := rw_go hG hC hn2 hz hR0 hlt hgz hgo hf ht0 ht (lost := l) (by omega) mR (fun j => if j = 0 then l else 0) (upd (fun _ => 0) 0 (nI l)) r (by rw [mR_e]; omega) (fun j _ => by
        show upd (fun _ => 0) 0 (nI l) j = nI (if j = 0 then l else 0)
        by_cases q : j = 0
        · rw [q, upd_s, if_pos rfl]
        · rw [upd_n _ _ q, if_neg q, nI_0]) hx0 (show l + 0 + 0 + 0 + 0 = l by omega) (hA _ (fun j hj => if_neg (by omega)) (if_pos rfl)) h2
      have hstep : rkL (fjE E) (fdE E) n z f (iI (sI D n)) (d + 1) l (iI r) = rkL (fjE E) (fdE E) n z f (iI (sI D n)) d (l + 1) (iI r') := by
        show (if nI l ≤ iI r then _ else iI r) = _
        rw [if_pos (hc.mpr (by omega)), e]
      rw [hstep]
      refine rk_go hG hC hn2 hz hR0 hlt hgz hgo hf ht0 ht d (l + 1) r' (by omega) b1 b2 ?_
      rcases b3 with q | q
      · exact Or.inl q
      · exact Or.inr ⟨by omega, q.2⟩
/-- the code's rank is the rank -/
theorem rkV_go {n : Nat} {E : Nat → Nat → Nat} (hG : Gr n E) (hC : Conn n E) (hn2 : 2 ≤ n) {z : Nat} (hz : z < n) {D : Nat → Int} {fo : Nat → Int32} (hD : ∀ v, v < 6 → fo v = iI (D v)) (hb : ∀ v, -700 ≤ D v ∧ D v ≤ 700) (hD0 : ∀ v, n ≤ v → D v = 0) (ht0 : 0 ≤ sI D n) (ht : sI D n ≤ 8) (q : Nat → Int32) :
    ∃ r, rkV (fjE E) (fdE E) n z q fo = iI r ∧ IsRk n E D r := by
  have hn := hG.1
  obtain ⟨g, hR, hlt, hg, hgo⟩ := miss_goB (q := q) hG hC hn2 hz (fo := fo) (d := D) fun v hv => ⟨hD v (by omega), (hb v).1, (hb v).2⟩
  have hf : ∀ j, j < 6 → (fdR n z (fjE E) (fdE E) (msI (fdE E) fo q n)).1 j = nI (cutN n z g j) := fun j hj => by
    rw [hg j hj]
    by_cases hjz : j = z
    · rw [if_pos hjz, hjz, cutN_z]
    · rw [if_neg hjz]
      by_cases hjn : j < n
      · rw [cutN_in hjn hjz]
      · rw [cutN_out (by omega), hgo j hj (by omega)]
  have hs : rSum fo 6 = iI (sI D n) := by rw [rSum_i 6 hD, sI_cut6 hn hD0]
  unfold rkV
  rw [hs, if_neg (fun w => by have := (iI_lt0 (by omega) (by omega)).mp w; omega)]
  obtain ⟨r', e, _, _, h⟩ := rk_go hG hC hn2 hz (rep_cut hG hR) (fun v hv hvz => by rw [cutN_in hv hvz]; exact hlt v hv hvz) cutN_z (fun j hj => cutN_out hj) hf ht0 ht 9 0 (sI D n) rfl (by omega) ht (Or.inl fun x' h1 h2 => rinv_start hG hC hn2 hz ht0 fun j => by
    rcases Nat.eq_zero_or_pos j with q | q
    · rw [q]; exact h2
    · exact h1 j q)
  exact ⟨r', e, h⟩
theorem rsI_at {fd fo : Nat → Int32} : ∀ n v, rsI fd fo n v = if v < n then fd v - 2 - fo v else 0
  | 0, v => by rw [if_neg (Nat.not_lt_zero _)]; rfl
  | n + 1, v => by
    have ih := rsI_at (fd := fd) (fo := fo) n v
    show upd (rsI fd fo n) n (fd n - 2 - fo n) v = _
    by_cases h : v = n
    · subst h; rw [upd_s, if_pos (Nat.lt_succ_self _)]
    · rw [upd_n _ _ h, ih]
      by_cases h2 : v < n
      · rw [if_pos h2, if_pos (show v < n + 1 by omega)]
      · rw [if_neg h2, if_neg (show ¬ v < n + 1 by omega)]
theorem sI_const (a : Int) : ∀ n : Nat, sI (fun _ => a) n = a * n
  | 0 => by rw [show ((0 : Nat) : Int) = 0 from rfl, Int.mul_zero]; rfl
  | n + 1 => by
    show sI (fun _ => a) n + a = a * ((n + 1 : Nat) : Int)
    rw [sI_const a n, Int.natCast_succ, Int.mul_add, Int.mul_one]
/-- all edges twice -/
theorem dg_even {n : Nat} {E : Nat → Nat → Nat} (hG : Gr n E) : ∃ e, sumN (dg E) 6 = 2 * e ∧ e ≤ 45 := by
  obtain ⟨hn, hS, h0, _, h3⟩ := hG
  refine ⟨E 0 1 + E 0 2 + E 0 3 + E 0 4 + E 0 5 + E 1 2 + E 1 3 + E 1 4 + E 1 5 + E 2 3 + E 2 4 + E 2 5 + E 3 4 + E 3 5 + E 4 5, ?_, ?_⟩
  · have e : ∀ v, dg E v = 0 + E v 0 + E v 1 + E v 2 + E v 3 + E v 4 + E v 5 := fun v => rfl
    show 0 + dg E 0 + dg E 1 + dg E 2 + dg E 3 + dg E 4 + dg E 5 = _
    rw [e, e, e, e, e, e, h0 0, h0 1, h0 2, h0 3, h0 4, h0 5, hS 1 0, hS 2 0, hS 3 0, hS 4 0, hS 5 0, hS 2 1, hS 3 1, hS 4 1, hS 5 1, hS 3 2, hS 4 2, hS 5 2, hS 4 3, hS 5 3, hS 5 4]
    omega
  · have a1 := h3 0 1; have a2 := h3 0 2; have a3 := h3 0 3; have a4 := h3 0 4; have a5 := h3 0 5; have a6 := h3 1 2; have a7 := h3 1 3; have a8 := h3 1 4; have a9 := h3 1 5; have b1 := h3 2 3; have b2 := h3 2 4; have b3 := h3 2 5; have b4 := h3 3 4; have b5 := h3 3 5; have b6 := h3 4 5
    omega
theorem half45 : (List.range 46).all (fun e => decide ((nI (2 * e) / 2 : Int32) = nI e)) = true := by decide
/-- Riemann and Roch, as the class checks it -/
theorem rank_law {n : Nat} {E : Nat → Nat → Nat} (hG : Gr n E) (hC : Conn n E) (hn2 : 2 ≤ n) {z : Nat} (hz : z < n) {D : Nat → Int} (hb : ∀ v, -600 ≤ D v ∧ D v ≤ 600) (hD0 : ∀ v, n ≤ v → D v = 0) (h : crI (fdE E) (iF D) n = true) (q1 q2 : Nat → Int32) :
    rkV (fjE E) (fdE E) n z q1 (iF D) - rkV (fjE E) (fdE E) n z q2 (rsI (fdE E) (iF D) n) = rSum (iF D) 6 - rSum (fdE E) 6 / 2 + nI n := by
  have hn := hG.1
  have hd15 := fun v => dg_le hG v
  let D2 : Nat → Int := fun v => if v < n then (dg E v : Int) - 2 - D v else 0
  have hD2 : ∀ v, v < 6 → rsI (fdE E) (iF D) n v = iI (D2 v) := fun v _ => by
    rw [rsI_at]
    show _ = iI (if v < n then (dg E v : Int) - 2 - D v else 0)
    by_cases hv : v < n
    · rw [if_pos hv, if_pos hv]
      show nI (dg E v) - 2 - iI (D v) = _
      rw [← iI_n, show (2 : Int32) = iI 2 by decide, iI_sub, iI_sub]
    · rw [if_neg hv, if_neg hv, iI_0]
  have hb2 : ∀ v, -700 ≤ D2 v ∧ D2 v ≤ 700 := fun v => by
    have h1 := hd15 v
    have h2 := hb v
    show -700 ≤ (if v < n then (dg E v : Int) - 2 - D v else 0) ∧ (if v < n then (dg E v : Int) - 2 - D v else 0) ≤ 700
    split <;> omega
  have hD20 : ∀ v, n ≤ v → D2 v = 0 := fun v hv => if_neg (by omega)
  have hs1 : rSum (iF D) 6 = iI (sI D n) := by rw [rSum_i (f := iF D) (d := D) 6 (fun v _ => rfl), sI_cut6 hn hD0]
  have hs2 : rSum (rsI (fdE E) (iF D) n) 6 = iI (sI D2 n) := by rw [rSum_i 6 hD2, sI_cut6 hn hD20]
  have bnd : ∀ (a : Nat → Int), (∀ v, -700 ≤ a v ∧ a v ≤ 700) → ∀ m : Nat, m ≤ 6 → -700 * (m : Int) ≤ sI a m ∧ sI a m ≤ 700 * (m : Int) := by
    intro a ha m
    induction m with
    | zero => intro _; exact ⟨Int.le_refl _, Int.le_refl _⟩
    | succ m ih =>
      intro hm
      have h1 := ih (by omega)
      have h2 := ha m
      show -700 * ((m + 1 : Nat) : Int) ≤ sI a m + a m ∧ sI a m + a m ≤ 700 * ((m + 1 : Nat) : Int)
      omega
  have B1 := bnd D (fun v => by have := hb v; omega) n hn
  have B2 := bnd D2 hb2 n hn
  unfold crI at h
  rw [decide_eq_true_eq, hs1, hs2] at h
  obtain ⟨c1, c2, c3, c4⟩ := h
  have e0 : ∀ y : Int, -4200 ≤ y → y ≤ 4200 → (¬ iI y < 0 ↔ 0 ≤ y) ∧ (¬ 8 < iI y ↔ y ≤ 8) := fun y h1 h2 => by
    constructor
    · rw [iI_lt0 (by omega) (by omega)]; omega
    · rw [show (8 : Int32) = iI 8 by decide, iI_lt (by omega) (by omega) (by omega) (by omega)]; omega
  have f1 := e0 (sI D n) (by omega) (by omega)
  have f2 := e0 (sI D2 n) (by omega) (by omega)
  obtain ⟨r1, w1, k1⟩ := rkV_go hG hC hn2 hz (D := D) (fo := iF D) (fun v _ => rfl) (fun v => by have := hb v; omega) hD0 (f1.1.mp c1) (f1.2.mp c2) q1
  obtain ⟨r2, w2, k2⟩ := rkV_go hG hC hn2 hz (D := D2) hD2 hb2 hD20 (f2.1.mp c3) (f2.2.mp c4) q2
  obtain ⟨e, he, he45⟩ := dg_even hG
  have hdgn : sI (fun v => (dg E v : Int)) n = 2 * (e : Int) := by
    rw [← sI_cut6 hn (fun v hv => by rw [dg_out hG hv]; rfl), ← sumN_I, he]; omega
  have hk : sI (fun v => (dg E v : Int) - 2) n = 2 * (e : Int) - 2 * n := by
    rw [sI_sub (fun v => (dg E v : Int)) (fun _ => 2) n, hdgn, sI_const]
  have k2' : IsRk n E (fun v => (dg E v : Int) - 2 - D v) r2 := by
    have : ∀ v, v < n → D2 v = (dg E v : Int) - 2 - D v := fun v hv => if_pos hv
    obtain ⟨p1, p2⟩ := k2
    refine ⟨fun b => p1 ?_, ?_⟩
    · obtain ⟨D', o, hq, ho, hdP⟩ := b
      obtain ⟨ff, hff⟩ := hq
      exact ⟨D', o, ⟨ff, fun v hv => by rw [this v hv]; exact hff v hv⟩, ho, hdP⟩
    · obtain ⟨D', o, hq, ho, hdP⟩ := p2
      obtain ⟨ff, hff⟩ := hq
      exact ⟨D', o, ⟨ff, fun v hv => by have := hff v hv; rw [‹∀ v, v < n → D2 v = (dg E v : Int) - 2 - D v› v hv] at this; exact this⟩, ho, hdP⟩
  have hrr := riemann_roch hG (D := D) (d := sI D n - e + n) (by rw [hk]; omega) k1 k2'
  have hf : rSum (fdE E) 6 = nI (2 * e) := by
    rw [show (fdE E) = nF (dg E) from rfl]
    have : ∀ m, rSum (nF (dg E)) m = nI (sumN (dg E) m) := fun m => rSum_nF m
    rw [this, he]
  have hh := of_decide_eq_true (List.all_eq_true.mp half45 e (List.mem_range.mpr (by omega)))
  rw [w1, w2, hs1, hf, hh, iI_sub, hrr, ← iI_n, ← iI_n, iI_sub, iI_add]
