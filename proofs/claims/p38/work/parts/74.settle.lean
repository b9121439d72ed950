/-! SETTLING: class and law come to the same, with the same counts -/
def canN (E : Nat → Nat → Nat) (z : Nat) (g : Nat → Nat) (v : Nat) : Prop := v ≠ z ∧ 0 < dg E v ∧ dg E v ≤ g v
theorem cTop_iff {E : Nat → Nat → Nat} (hE : ∀ i j, E i j ≤ 3) {z v g : Nat} {f : Nat → Int32} (hf : f v = nI g) (hg : g < 2 ^ 31) : cTop z (fdE E) f v = true ↔ v ≠ z ∧ 0 < dg E v ∧ dg E v ≤ g := by
  have hd := dg18 hE v
  unfold cTop fdE
  rw [hf, Bool.and_eq_true, Bool.and_eq_true, decide_eq_true_eq, decide_eq_true_eq, decide_eq_true_eq, nI_le0 (by omega), nI_ltI hg (by omega)]
  omega
theorem cnL_iff {E : Nat → Nat → Nat} (hE : ∀ i j, E i j ≤ 3) {z v g : Nat} {f : Nat → Int32} (hf : f v = nI g) (hg : g < 2 ^ 31) : cnL E z f v = true ↔ v ≠ z ∧ 0 < dg E v ∧ dg E v ≤ g := by
  have hd := dg18 hE v
  unfold cnL
  rw [hf, Bool.and_eq_true, Bool.and_eq_true, decide_eq_true_eq, decide_eq_true_eq, decide_eq_true_eq, nI_ltI hg (by omega)]
  omega
theorem i32_lift {a t d : Nat} (h : t * d ≤ a) : nI a + -(nI t) * nI d = nI (a - t * d) := by
  obtain ⟨b, rfl⟩ : ∃ b, a = b + t * d := ⟨a - t * d, by omega⟩
  rw [Nat.add_sub_cancel, ← nI_add, ← pk_mul, Int32.neg_mul, Int32.add_assoc, Int32.add_right_neg, Int32.add_zero]
/-- what a toppling sends -/
theorem tpF_at {z : Nat} {fj : Nat → Int32} {x : Int32} {v : Nat} {f : Nat → Int32} : ∀ n j, tpF z fj x v f n j = if j = z ∨ n ≤ j then f j else f j + x * fj (v * 6 + j)
  | 0, j => by rw [if_pos (Or.inr (Nat.zero_le _))]; rfl
  | n + 1, j => by
    have ih := tpF_at (z := z) (fj := fj) (x := x) (v := v) (f := f) n
    have e : tpF z fj x v f (n + 1) = if n = z then tpF z fj x v f n else upd (tpF z fj x v f n) n (tpF z fj x v f n n + x * fj (v * 6 + n)) := rfl
    rw [e]
    by_cases hnz : n = z
    · rw [if_pos hnz, ih j]
      by_cases h : j = z ∨ n ≤ j
      · rw [if_pos h, if_pos (by omega)]
      · rw [if_neg h, if_neg (by omega)]
    · rw [if_neg hnz]
      by_cases hj : j = n
      · subst hj
        rw [upd_s, ih j, if_pos (Or.inr (Nat.le_refl _)), if_neg (by omega)]
      · rw [upd_n _ _ hj, ih j]
        by_cases h : j = z ∨ n ≤ j
        · rw [if_pos h, if_pos (by omega)]
        · rw [if_neg h, if_neg (by omega)]
theorem tpT_at {z : Nat} {fj : Nat → Int32} {x : Int32} {v : Nat} {tk : Int32} : ∀ n, tpT z fj x v tk n = if z < n then tk + x * fj (v * 6 + z) else tk
  | 0 => by rw [if_neg (by omega)]; rfl
  | n + 1 => by
    have ih := tpT_at (z := z) (fj := fj) (x := x) (v := v) (tk := tk) n
    have e : tpT z fj x v tk (n + 1) = if n = z then tpT z fj x v tk n + x * fj (v * 6 + n) else tpT z fj x v tk n := rfl
    rw [e, ih]
    by_cases hnz : n = z
    · subst hnz
      rw [if_pos rfl, if_neg (by omega), if_pos (by omega)]
    · rw [if_neg hnz]
      by_cases h : z < n
      · rw [if_pos h, if_pos (by omega)]
      · rw [if_neg h, if_neg (by omega)]
/-- the class's state where g chips lie after k topplings: at the sink there are none, they are swallowed -/
def Cfg (z : Nat) (ct0 : Nat → Int32) (tk0 : Int32) (S : (Nat → Int32) × (Nat → Int32) × Int32 × Int32) (g k : Nat → Nat) : Prop :=
  (∀ j, j < 6 → S.1 j = nI (if j = z then 0 else g j)) ∧ (∀ j, j < 6 → S.2.1 j = ct0 j + nI (k j)) ∧ S.2.2.1 = tk0 + nI (g z) ∧ S.2.2.2 = nI (sumN k 6)
theorem cfg_top {n : Nat} {E : Nat → Nat → Nat} (hG : Gr n E) {z v t : Nat} (hz : z < n) (hv : v < n) {ct0 : Nat → Int32} {tk0 : Int32} {f ct : Nat → Int32} {tk tp : Int32} {g k : Nat → Nat} (h : Cfg z ct0 tk0 (f, ct, tk, tp) g k) (hvz : v ≠ z) (ht : t * dg E v ≤ g v) :
    Cfg z ct0 tk0 (tpF z (fjE E) (nI t) v (upd f v (f v + (-(nI t)) * fdE E v)) n, upd ct v (ct v + nI t), tpT z (fjE E) (nI t) v tk n, tp + nI t) (tpE E v t g) (adv k v t) := by
  obtain ⟨h1, h2, h3, h4⟩ := h
  have hn := hG.1
  have h1' : ∀ j, j < 6 → f j = nI (if j = z then 0 else g j) := h1
  have h2' : ∀ j, j < 6 → ct j = ct0 j + nI (k j) := h2
  have h3' : tk = tk0 + nI (g z) := h3
  have h4' : tp = nI (sumN k 6) := h4
  refine ⟨fun j hj => ?_, fun j hj => ?_, ?_, ?_⟩
  · show tpF z (fjE E) (nI t) v _ n j = _
    rw [tpF_at]
    by_cases hjv : j = v
    · subst hjv
      rw [if_neg (by omega), upd_s, h1' j hj, if_neg hvz, if_neg hvz, fjE_at E hj, hG.2.2.1 j]
      show nI (g j) + -(nI t) * nI (dg E j) + nI t * nI 0 = nI (tpE E j t g j)
      rw [i32_lift ht, pk_mul, Nat.mul_zero, nI_add, Nat.add_zero]
      unfold tpE
      rw [if_pos rfl]
    · rw [upd_n _ _ hjv, h1' j hj]
      have hE : tpE E v t g j = g j + t * E v j := if_neg hjv
      by_cases hjz : j = z
      · rw [if_pos (Or.inl hjz), if_pos hjz, if_pos hjz]
      · rw [if_neg hjz, if_neg hjz, hE]
        by_cases hjn : n ≤ j
        · rw [if_pos (Or.inr hjn), hG.2.1 v j, hG.2.2.2.1 j v hjn, Nat.mul_zero, Nat.add_zero]
        · rw [if_neg (by omega), fjE_at E hj, pk_mul, nI_add]
  · show upd ct v (ct v + nI t) j = ct0 j + nI (adv k v t j)
    unfold adv
    by_cases hjv : j = v
    · subst hjv
      rw [upd_s, if_pos rfl, h2' j hj, Int32.add_assoc, nI_add]
    · rw [upd_n _ _ hjv, if_neg hjv]
      exact h2' j hj
  · show tpT z (fjE E) (nI t) v tk n = tk0 + nI (tpE E v t g z)
    rw [tpT_at, if_pos hz, fjE_at E (by omega), pk_mul, h3', Int32.add_assoc, nI_add]
    unfold tpE
    rw [if_neg (fun q => hvz q.symm)]
  · show tp + nI t = nI (sumN (adv k v t) 6)
    rw [h4', nI_add, sumN_adv1 _ _ _ _ (by omega)]
theorem stV_go {n : Nat} {E : Nat → Nat → Nat} (hG : Gr n E) {z v : Nat} (hz : z < n) (hv : v < n) {ct0 : Nat → Int32} {tk0 : Int32} {S : (Nat → Int32) × (Nat → Int32) × Int32 × Int32} {c g k : Nat → Nat} (h : Cfg z ct0 tk0 S g k) (hL : Leg E z c g k) (hb : ∀ j, j < 6 → g j < 2 ^ 30) :
    ∃ g' k', Cfg z ct0 tk0 (stV n z (fjE E) (fdE E) v S) g' k' ∧ Leg E z c g' k' ∧ ((¬ canN E z g v ∧ g' = g ∧ k' = k) ∨ sumN k 6 < sumN k' 6) := by
  have hn := hG.1
  obtain ⟨f, ct, tk, tp⟩ := S
  have hd := dg18 hG.2.2.2.2 v
  by_cases hc : canN E z g v
  · obtain ⟨hvz, hd0, hdg⟩ := hc
    have hf : f v = nI (g v) := by have := h.1 v (by omega); rw [if_neg hvz] at this; exact this
    have hg := hb v (by omega)
    have ht : f v / fdE E v = nI (g v / dg E v) := by
      rw [hf]; exact pk_div (by omega) hd0 (by omega)
    have e : stV n z (fjE E) (fdE E) v (f, ct, tk, tp) = (tpF z (fjE E) (nI (g v / dg E v)) v (upd f v (f v + (-(nI (g v / dg E v))) * fdE E v)) n, upd ct v (ct v + nI (g v / dg E v)), tpT z (fjE E) (nI (g v / dg E v)) v tk n, tp + nI (g v / dg E v)) := by
      unfold stV
      rw [if_pos ⟨fun q => nI_nle hd0 (by omega) q, (cTop_iff hG.2.2.2.2 hf (by omega)).mpr ⟨hvz, hd0, hdg⟩⟩]
      show (tpF z (fjE E) (f v / fdE E v) v _ n, _, _, _) = _
      rw [ht]
    have hle : g v / dg E v * dg E v ≤ g v := Nat.div_mul_le_self _ _
    rw [e]
    refine ⟨_, _, cfg_top hG hz hv h hvz hle, leg_step hG (by omega) hvz hd0 hle hL, Or.inr ?_⟩
    rw [sumN_adv1 _ _ _ _ (show v < 6 by omega)]
    have : 0 < g v / dg E v := Nat.div_pos hdg hd0
    omega
  · have e : stV n z (fjE E) (fdE E) v (f, ct, tk, tp) = (f, ct, tk, tp) := by
      unfold stV
      refine if_neg fun q => hc ?_
      have hvz : v ≠ z := by
        have q2 := q.2
        unfold cTop at q2
        rw [Bool.and_eq_true, decide_eq_true_eq] at q2
        exact q2.1
      have hf : f v = nI (g v) := by have := h.1 v (by omega); rw [if_neg hvz] at this; exact this
      exact (cTop_iff hG.2.2.2.2 hf (by have := hb v (by omega); omega)).mp q.2
    rw [e]
    exact ⟨g, k, h, hL, Or.inl ⟨hc, rfl, rfl⟩⟩
theorem stR_go {n : Nat} {E : Nat → Nat → Nat} (hG : Gr n E) {z : Nat} (hz : z < n) {o : Nat → Nat} (ho : ∀ i, i < n → o i < n) {ct0 : Nat → Int32} {tk0 : Int32} {S : (Nat → Int32) × (Nat → Int32) × Int32 × Int32} {c g k : Nat → Nat} (hT : sumN c 6 < 2 ^ 30) (h : Cfg z ct0 tk0 S g k) (hL : Leg E z c g k) : ∀ i, i ≤ n →
    ∃ g' k', Cfg z ct0 tk0 (stR n z (fjE E) (fdE E) o S i) g' k' ∧ Leg E z c g' k' ∧ (((∀ i', i' < i → ¬ canN E z g (o i')) ∧ g' = g ∧ k' = k) ∨ sumN k 6 < sumN k' 6)
  | 0, _ => ⟨g, k, h, hL, Or.inl ⟨fun i' h => absurd h (Nat.not_lt_zero _), rfl, rfl⟩⟩
  | i + 1, hi => by
    obtain ⟨g1, k1, a1, a2, a3⟩ := stR_go hG hz ho hT h hL i (by omega)
    obtain ⟨g2, k2, b1, b2, b3⟩ := stV_go hG hz (ho i (by omega)) a1 a2 (fun j hj => by have := leg_le hG a2 hj; omega)
    refine ⟨g2, k2, b1, b2, ?_⟩
    rcases a3 with ⟨q1, q2, q3⟩ | q
    · subst q2 q3
      rcases b3 with ⟨r1, r2, r3⟩ | r
      · refine Or.inl ⟨fun i' hi' => ?_, r2, r3⟩
        by_cases e : i' = i
        · rw [e]; exact r1
        · exact q1 i' (by omega)
      · exact Or.inr r
    · rcases b3 with ⟨r1, r2, r3⟩ | r
      · subst r3; exact Or.inr q
      · exact Or.inr (by omega)
theorem stA_go {n : Nat} {E : Nat → Nat → Nat} (hG : Gr n E) (hC : Conn n E) {z : Nat} (hz : z < n) {o : Nat → Nat} (ho : ∀ i, i < n → o i < n) (ho2 : ∀ v, v < n → ∃ i, i < n ∧ o i = v) {ct0 : Nat → Int32} {tk0 : Int32} {c : Nat → Nat} (hT : 15 * sumN c 6 < 2 ^ 30) : ∀ r (S : (Nat → Int32) × (Nat → Int32) × Int32 × Int32) (g k : Nat → Nat), Cfg z ct0 tk0 S g k → Leg E z c g k → 15 * sumN c 6 < r + sumN k 6 →
    ∃ g' k', Cfg z ct0 tk0 (stA n z (fjE E) (fdE E) o r S) g' k' ∧ Leg E z c g' k' ∧ Stl E z g'
  | 0, S, g, k, _, hL, hr => by
    have := leg_sum hG hC hz hL
    omega
  | r + 1, S, g, k, h, hL, hr => by
    obtain ⟨g1, k1, a1, a2, a3⟩ := stR_go hG hz ho (by omega) h hL n (Nat.le_refl _)
    have hb1 := leg_sum hG hC hz hL
    have hb2 := leg_sum hG hC hz a2
    have e : stA n z (fjE E) (fdE E) o (r + 1) S = if (stR n z (fjE E) (fdE E) o S n).2.2.2 = S.2.2.2 then stR n z (fjE E) (fdE E) o S n else stA n z (fjE E) (fdE E) o r (stR n z (fjE E) (fdE E) o S n) := rfl
    have htop : (stR n z (fjE E) (fdE E) o S n).2.2.2 = S.2.2.2 ↔ sumN k1 6 = sumN k 6 := by
      rw [a1.2.2.2, h.2.2.2]
      exact nI_eq (by omega) (by omega)
    rw [e]
    rcases a3 with ⟨q1, q2, q3⟩ | q
    · subst q2 q3
      rw [if_pos (htop.mpr rfl)]
      refine ⟨_, _, a1, a2, fun j hj hjz hd => ?_⟩
      have hjn : j < n := by
        rcases Nat.lt_or_ge j n with q | q
        · exact q
        · rw [dg_out hG q] at hd; exact absurd hd (Nat.lt_irrefl _)
      obtain ⟨i, hi, hoi⟩ := ho2 j hjn
      have := q1 i hi
      rw [hoi] at this
      rcases Nat.lt_or_ge (g1 j) (dg E j) with q | q
      · exact q
      · exact absurd ⟨hjz, hd, q⟩ this
    · rw [if_neg (fun q2 => by have := htop.mp q2; omega)]
      exact stA_go hG hC hz ho ho2 hT r _ g1 k1 a1 a2 (by omega)
/-- the class's settleAll -/
theorem settle_cls {n : Nat} {E : Nat → Nat → Nat} (hG : Gr n E) (hC : Conn n E) {z : Nat} (hz : z < n) {o : Nat → Nat} (ho : ∀ i, i < n → o i < n) (ho2 : ∀ v, v < n → ∃ i, i < n ∧ o i = v) {c : Nat → Nat} (hc : c z = 0) (hT : sumN c 6 ≤ 66000) {f ct : Nat → Int32} {tk : Int32} (hf : ∀ j, j < 6 → f j = nI (c j)) :
    ∃ g k, Cfg z ct tk (stA n z (fjE E) (fdE E) o mR (f, ct, tk, 0)) g k ∧ Leg E z c g k ∧ Stl E z g := by
  have hm : mR = 1000000 := rfl
  have hn := hG.1
  refine stA_go hG hC hz ho ho2 (c := c) (by omega) mR (f, ct, tk, 0) c (fun _ => 0) ⟨fun j hj => ?_, fun j hj => ?_, ?_, ?_⟩ (leg_0 E z c) (by omega)
  · show f j = _
    by_cases h : j = z
    · subst h; rw [if_pos rfl, hf j hj, hc]
    · rw [if_neg h]; exact hf j hj
  · show ct j = ct j + nI 0
    rw [nI_0, Int32.add_zero]
  · show tk = tk + nI (c z)
    rw [hc, nI_0, Int32.add_zero]
  · show (0 : Int32) = nI (sumN (fun _ => 0) 6)
    rw [sumN_0 (fun _ _ => rfl)]; rfl
theorem ord_lo {n : Nat} : (∀ i, i < n → (fun i9 : Nat => i9) i < n) ∧ ∀ v, v < n → ∃ i, i < n ∧ (fun i9 : Nat => i9) i = v := ⟨fun _ h => h, fun v h => ⟨v, h, rfl⟩⟩
theorem ord_hi {n : Nat} : (∀ i, i < n → (fun i9 : Nat => n - 1 - i9) i < n) ∧ ∀ v, v < n → ∃ i, i < n ∧ (fun i9 : Nat => n - 1 - i9) i = v := ⟨fun i h => by show n - 1 - i < n; omega, fun v h => ⟨n - 1 - v, by omega, by show n - 1 - (n - 1 - v) = v; omega⟩⟩
/-- the law's state: at the sink there is x0 and what came -/
def Cfl (z : Nat) (x0 : Int32) (o0 : Nat → Int32) (S : (Nat → Int32) × (Nat → Int32) × Int32) (g k : Nat → Nat) : Prop :=
  (∀ j, j < 6 → j ≠ z → S.1 j = nI (g j)) ∧ S.1 z = x0 + nI (g z) ∧ (∀ j, j < 6 → S.2.1 j = o0 j + nI (k j)) ∧ S.2.2 = nI (sumN k 6)
theorem tlF_at {E : Nat → Nat → Nat} {a : Nat} {g : Nat → Int32} : ∀ m j, tlF E a g m j = if j < m then g j + nI (E a j) else g j
  | 0, j => by rw [if_neg (Nat.not_lt_zero _)]; rfl
  | m + 1, j => by
    have ih := tlF_at (E := E) (a := a) (g := g) m
    show upd (tlF E a g m) m (tlF E a g m m + EN E a m) j = _
    by_cases h : j = m
    · subst h
      rw [upd_s, ih j, if_neg (Nat.lt_irrefl _), if_pos (Nat.lt_succ_self _)]; rfl
    · rw [upd_n _ _ h, ih j]
      by_cases h2 : j < m
      · rw [if_pos h2, if_pos (by omega)]
      · rw [if_neg h2, if_neg (by omega)]
theorem cfl_top {n : Nat} {E : Nat → Nat → Nat} (hG : Gr n E) {z a : Nat} (hz : z < n) (ha : a < n) {x0 : Int32} {o0 : Nat → Int32} {S : (Nat → Int32) × (Nat → Int32) × Int32} {g k : Nat → Nat} (h : Cfl z x0 o0 S g k) (haz : a ≠ z) (hd : dg E a ≤ g a) : Cfl z x0 o0 (lsT E a S) (tpE E a 1 g) (adv k a 1) := by
  obtain ⟨h1, h2, h3, h4⟩ := h
  have hn := hG.1
  have hE : ∀ j, j ≠ a → tpE E a 1 g j = g j + 1 * E a j := fun j hj => if_neg hj
  refine ⟨fun j hj hjz => ?_, ?_, fun j hj => ?_, ?_⟩
  · show tlF E a (upd S.1 a (S.1 a - nI (dg E a))) 6 j = _
    rw [tlF_at, if_pos hj]
    by_cases hja : j = a
    · subst hja
      rw [upd_s, h1 j hj hjz, hG.2.2.1 j, pk_sub hd, nI_add, Nat.add_zero]
      show _ = nI (if j = j then g j - 1 * dg E j else _)
      rw [if_pos rfl, Nat.one_mul]
    · rw [upd_n _ _ hja, h1 j hj hjz, nI_add, hE j hja, Nat.one_mul]
  · show tlF E a (upd S.1 a (S.1 a - nI (dg E a))) 6 z = _
    rw [tlF_at, if_pos (by omega), upd_n _ _ (fun q => haz q.symm), h2, Int32.add_assoc, nI_add, hE z (fun q => haz q.symm), Nat.one_mul]
  · show upd S.2.1 a (S.2.1 a + 1) j = o0 j + nI (adv k a 1 j)
    unfold adv
    by_cases hja : j = a
    · subst hja
      rw [upd_s, if_pos rfl, h3 j hj, Int32.add_assoc, nI_1]
    · rw [upd_n _ _ hja, if_neg hja]
      exact h3 j hj
  · show S.2.2 + 1 = nI (sumN (adv k a 1) 6)
    rw [h4, nI_1, sumN_adv1 _ _ _ _ (by omega)]
theorem hi_can {n : Nat} {E : Nat → Nat → Nat} (hG : Gr n E) {z : Nat} {x0 : Int32} {o0 : Nat → Int32} {S : (Nat → Int32) × (Nat → Int32) × Int32} {g k : Nat → Nat} (h : Cfl z x0 o0 S g k) (hb : ∀ j, j < 6 → g j < 2 ^ 30) {a : Nat} (ha : a < n) : cnL E z S.1 a = true ↔ canN E z g a := by
  have hn := hG.1
  by_cases haz : a = z
  · rw [cnL_1 haz]
    exact ⟨fun q => (by cases q), fun q => absurd haz q.1⟩
  · exact cnL_iff hG.2.2.2.2 (h.1 a (by omega) haz) (by have := hb a (by omega); omega)
theorem hiO_get {P : Nat → Bool} : ∀ {n a : Nat}, hiO P n = some a → a < n ∧ P a = true
  | n + 1, a, h => by
    unfold hiO at h
    by_cases hP : P n = true
    · rw [if_pos hP] at h; cases h; exact ⟨by omega, hP⟩
    · rw [if_neg hP] at h
      have := hiO_get h
      exact ⟨by omega, this.2⟩
theorem lsA_go {n : Nat} {E : Nat → Nat → Nat} (hG : Gr n E) (hC : Conn n E) {z : Nat} (hz : z < n) {x0 : Int32} {o0 : Nat → Int32} {c : Nat → Nat} (hT : 15 * sumN c 6 < 2 ^ 30) : ∀ r (S : (Nat → Int32) × (Nat → Int32) × Int32) (g k : Nat → Nat), Cfl z x0 o0 S g k → Leg E z c g k → 15 * sumN c 6 ≤ r + sumN k 6 →
    ∃ g' k', Cfl z x0 o0 (lsA E n z r S) g' k' ∧ Leg E z c g' k' ∧ Stl E z g' ∧ hiO (cnL E z (lsA E n z r S).1) n = none := by
  have fin : ∀ (S : (Nat → Int32) × (Nat → Int32) × Int32) (g k : Nat → Nat), Cfl z x0 o0 S g k → Leg E z c g k → hiO (cnL E z S.1) n = none → Stl E z g := by
    intro S g k h hL hh j hj hjz hd
    have hjn : j < n := by
      rcases Nat.lt_or_ge j n with q | q
      · exact q
      · rw [dg_out hG q] at hd; exact absurd hd (Nat.lt_irrefl _)
    have h1 := hiO_none.mp hh j hjn
    rcases Nat.lt_or_ge (g j) (dg E j) with q | q
    · exact q
    · have := (hi_can hG h (fun j hj => by have := leg_le hG hL hj; omega) hjn).mpr ⟨hjz, hd, q⟩
      rw [h1] at this; cases this
  have stp : ∀ (S : (Nat → Int32) × (Nat → Int32) × Int32) (g k : Nat → Nat) (a : Nat), Cfl z x0 o0 S g k → Leg E z c g k → hiO (cnL E z S.1) n = some a → Cfl z x0 o0 (lsT E a S) (tpE E a 1 g) (adv k a 1) ∧ Leg E z c (tpE E a 1 g) (adv k a 1) ∧ sumN (adv k a 1) 6 = sumN k 6 + 1 := by
    intro S g k a h hL hh
    have hn := hG.1
    obtain ⟨ha, hP⟩ := hiO_get hh
    obtain ⟨q1, q2, q3⟩ := (hi_can hG h (fun j hj => by have := leg_le hG hL hj; omega) ha).mp hP
    exact ⟨cfl_top hG hz ha h q1 q3, leg_step hG (by omega) q1 q2 (by omega) hL, sumN_adv1 _ _ _ _ (by omega)⟩
  intro r
  induction r with
  | zero =>
    intro S g k h hL hr
    have hb := leg_sum hG hC hz hL
    cases hh : hiO (cnL E z S.1) n with
    | none => exact ⟨g, k, h, hL, fin S g k h hL hh, hh⟩
    | some a =>
      obtain ⟨b1, b2, b3⟩ := stp S g k a h hL hh
      have := leg_sum hG hC hz b2
      omega
  | succ r ih =>
    intro S g k h hL hr
    cases hh : hiO (cnL E z S.1) n with
    | none =>
      have e : lsA E n z (r + 1) S = S := by
        show (match hiO (cnL E z S.1) n with | some a => lsA E n z r (lsT E a S) | none => S) = S
        rw [hh]
      rw [e]
      exact ⟨g, k, h, hL, fin S g k h hL hh, hh⟩
    | some a =>
      have e : lsA E n z (r + 1) S = lsA E n z r (lsT E a S) := by
        show (match hiO (cnL E z S.1) n with | some a => lsA E n z r (lsT E a S) | none => S) = _
        rw [hh]
      obtain ⟨b1, b2, b3⟩ := stp S g k a h hL hh
      rw [e]
      exact ih _ _ _ b1 b2 (by omega)
/-- the law's settles -/
theorem settle_law {n : Nat} {E : Nat → Nat → Nat} (hG : Gr n E) (hC : Conn n E) {z : Nat} (hz : z < n) {c : Nat → Nat} (hc : c z = 0) (hT : sumN c 6 ≤ 66000) {F : Nat} (hF : 15 * sumN c 6 ≤ F) {f ct : Nat → Int32} (hf : ∀ j, j < 6 → j ≠ z → f j = nI (c j)) :
    ∃ g k, Cfl z (f z) ct (lsA E n z F (f, ct, 0)) g k ∧ Leg E z c g k ∧ Stl E z g ∧ hiO (cnL E z (lsA E n z F (f, ct, 0)).1) n = none := by
  refine lsA_go hG hC hz (c := c) (by omega) F (f, ct, 0) c (fun _ => 0) ⟨hf, ?_, fun j hj => ?_, ?_⟩ (leg_0 E z c) (by omega)
  · show f z = f z + nI (c z)
    rw [hc, nI_0, Int32.add_zero]
  · show ct j = ct j + nI 0
    rw [nI_0, Int32.add_zero]
  · show (0 : Int32) = nI (sumN (fun _ => 0) 6)
    rw [sumN_0 (fun _ _ => rfl)]; rfl
