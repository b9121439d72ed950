/-! THE LAST VERTEX: the class's second count of trees -/
theorem idx_inj {L a b L' a' b' : Nat} (ha : a < 6) (hb : b < 6) (ha' : a' < 6) (hb' : b' < 6) (h : (L * 6 + a) * 6 + b = (L' * 6 + a') * 6 + b') : L = L' ∧ a = a' ∧ b = b' := by
  have key : ∀ x y : Nat, x * 6 + b = y * 6 + b' → x = y ∧ b = b' := fun x y q => by omega
  have h1 := key _ _ h
  have h2 : L = L' ∧ a = a' := by have := h1.1; omega
  exact ⟨h2.1, h2.2, h1.2⟩
theorem mgA_at {s v : Nat} (hs : 1 ≤ s) (hv : v < 6) {q : Nat → Int32} : ∀ w, w ≤ 6 → ∀ L a b, a < 6 → b < 6 → mgA s v q w ((L * 6 + a) * 6 + b) = if L = s - 1 ∧ a = v ∧ b < w then q ((s * 6 + v) * 6 + b) else q ((L * 6 + a) * 6 + b)
  | 0, _, L, a, b, _, _ => by
    rw [if_neg (fun h => Nat.not_lt_zero _ h.2.2)]; rfl
  | w + 1, hw, L, a, b, ha, hb => by
    have ih := mgA_at hs hv (q := q) w (by omega)
    show upd (mgA s v q w) (((s - 1) * 6 + v) * 6 + w) (mgA s v q w ((s * 6 + v) * 6 + w)) ((L * 6 + a) * 6 + b) = _
    rw [ih s v w hv (by omega), if_neg (show ¬ (s = s - 1 ∧ v = v ∧ w < w) by omega)]
    by_cases h : L = s - 1 ∧ a = v ∧ b = w
    · obtain ⟨rfl, rfl, rfl⟩ := h
      rw [upd_s, if_pos ⟨rfl, rfl, by omega⟩]
    · rw [upd_n _ _ (by omega), ih L a b ha hb]
      by_cases h2 : L = s - 1 ∧ a = v ∧ b < w
      · rw [if_pos h2, if_pos (show L = s - 1 ∧ a = v ∧ b < w + 1 by omega)]
      · rw [if_neg h2, if_neg (show ¬ (L = s - 1 ∧ a = v ∧ b < w + 1) by omega)]
theorem mgB_at {s : Nat} (hs : 1 ≤ s) (hs6 : s ≤ 6) {q : Nat → Int32} : ∀ v, v ≤ 6 → ∀ L a b, a < 6 → b < 6 → mgB s q v ((L * 6 + a) * 6 + b) = if L = s - 1 ∧ a < v ∧ b < s - 1 then q ((s * 6 + a) * 6 + b) else q ((L * 6 + a) * 6 + b)
  | 0, _, L, a, b, _, _ => by
    rw [if_neg (fun h => Nat.not_lt_zero _ h.2.1)]; rfl
  | v + 1, hv, L, a, b, ha, hb => by
    have ih := mgB_at hs hs6 (q := q) v (by omega)
    show mgA s v (mgB s q v) (s - 1) ((L * 6 + a) * 6 + b) = _
    rw [mgA_at hs (by omega) (s - 1) (by omega) L a b ha hb, ih L a b ha hb, ih s v b (by omega) hb, if_neg (show ¬ (s = s - 1 ∧ v < v ∧ b < s - 1) by omega)]
    by_cases h : L = s - 1 ∧ a = v ∧ b < s - 1
    · rw [if_pos h, if_pos (show L = s - 1 ∧ a < v + 1 ∧ b < s - 1 by omega), h.2.1]
    · rw [if_neg h]
      by_cases h2 : L = s - 1 ∧ a < v ∧ b < s - 1
      · rw [if_pos h2, if_pos (show L = s - 1 ∧ a < v + 1 ∧ b < s - 1 by omega)]
      · rw [if_neg h2, if_neg (show ¬ (L = s - 1 ∧ a < v + 1 ∧ b < s - 1) by omega)]
theorem mgD_at {s o : Nat} (hs : 1 ≤ s) (hs6 : s ≤ 6) (ho : o < s - 1) {q : Nat → Int32} : ∀ w, w ≤ s - 1 → ∀ L a b, a < 6 → b < 6 → mgD s o q w ((L * 6 + a) * 6 + b) = if L = s - 1 ∧ a = o ∧ b < w ∧ b ≠ o then q ((L * 6 + a) * 6 + b) + q ((s * 6 + (s - 1)) * 6 + b) else if L = s - 1 ∧ b = o ∧ a < w ∧ a ≠ o then q ((L * 6 + a) * 6 + b) + q ((s * 6 + (s - 1)) * 6 + a) else q ((L * 6 + a) * 6 + b)
  | 0, _, L, a, b, _, _ => by
    rw [if_neg (fun h => Nat.not_lt_zero _ h.2.2.1), if_neg (fun h => Nat.not_lt_zero _ h.2.2.1)]; rfl
  | w + 1, hw, L, a, b, ha, hb => by
    have ih := mgD_at hs hs6 ho (q := q) w (by omega)
    by_cases hwo : w = o
    · rw [mgD_y hwo, ih L a b ha hb]
      by_cases h1 : L = s - 1 ∧ a = o ∧ b < w ∧ b ≠ o
      · rw [if_pos h1, if_pos (show L = s - 1 ∧ a = o ∧ b < w + 1 ∧ b ≠ o by omega)]
      · rw [if_neg h1, if_neg (show ¬ (L = s - 1 ∧ a = o ∧ b < w + 1 ∧ b ≠ o) by omega)]
        by_cases h2 : L = s - 1 ∧ b = o ∧ a < w ∧ a ≠ o
        · rw [if_pos h2, if_pos (show L = s - 1 ∧ b = o ∧ a < w + 1 ∧ a ≠ o by omega)]
        · rw [if_neg h2, if_neg (show ¬ (L = s - 1 ∧ b = o ∧ a < w + 1 ∧ a ≠ o) by omega)]
    · have e : mgD s o q (w + 1) = upd (upd (mgD s o q w) (((s - 1) * 6 + o) * 6 + w) (mgD s o q w (((s - 1) * 6 + o) * 6 + w) + mgD s o q w ((s * 6 + (s - 1)) * 6 + w))) (((s - 1) * 6 + w) * 6 + o) (upd (mgD s o q w) (((s - 1) * 6 + o) * 6 + w) (mgD s o q w (((s - 1) * 6 + o) * 6 + w) + mgD s o q w ((s * 6 + (s - 1)) * 6 + w)) (((s - 1) * 6 + w) * 6 + o) + mgD s o q w ((s * 6 + (s - 1)) * 6 + w)) := if_neg hwo
      have x1 : mgD s o q w ((s * 6 + (s - 1)) * 6 + w) = q ((s * 6 + (s - 1)) * 6 + w) := by
        rw [ih s (s - 1) w (by omega) (by omega), if_neg (by omega), if_neg (by omega)]
      have x2 : mgD s o q w (((s - 1) * 6 + o) * 6 + w) = q (((s - 1) * 6 + o) * 6 + w) := by
        rw [ih (s - 1) o w (by omega) (by omega), if_neg (by omega), if_neg (by omega)]
      have x3 : mgD s o q w (((s - 1) * 6 + w) * 6 + o) = q (((s - 1) * 6 + w) * 6 + o) := by
        rw [ih (s - 1) w o (by omega) (by omega), if_neg (by omega), if_neg (by omega)]
      rw [e, x1, x2, upd_n (mgD s o q w) _ (show ¬ ((s - 1) * 6 + w) * 6 + o = ((s - 1) * 6 + o) * 6 + w by omega), x3]
      by_cases h1 : L = s - 1 ∧ a = w ∧ b = o
      · obtain ⟨rfl, rfl, rfl⟩ := h1
        rw [upd_s, if_neg (by omega), if_pos (by omega)]
      · rw [upd_n _ _ (fun q => h1 (idx_inj ha hb (by omega) (by omega) q))]
        by_cases h2 : L = s - 1 ∧ a = o ∧ b = w
        · obtain ⟨rfl, rfl, rfl⟩ := h2
          rw [upd_s, if_pos (by omega)]
        · rw [upd_n _ _ (fun q => h2 (idx_inj ha hb (by omega) (by omega) q)), ih L a b ha hb]
          by_cases h3 : L = s - 1 ∧ a = o ∧ b < w ∧ b ≠ o
          · rw [if_pos h3, if_pos (show L = s - 1 ∧ a = o ∧ b < w + 1 ∧ b ≠ o by omega)]
          · rw [if_neg h3, if_neg (show ¬ (L = s - 1 ∧ a = o ∧ b < w + 1 ∧ b ≠ o) by omega)]
            by_cases h4 : L = s - 1 ∧ b = o ∧ a < w ∧ a ≠ o
            · rw [if_pos h4, if_pos (show L = s - 1 ∧ b = o ∧ a < w + 1 ∧ a ≠ o by omega)]
            · rw [if_neg h4, if_neg (show ¬ (L = s - 1 ∧ b = o ∧ a < w + 1 ∧ a ≠ o) by omega)]
/-- the last vertex merged, in plain numbers -/
def ctN (l w : Nat) (Q : Nat → Nat → Nat) : Nat → Nat → Nat := fun v u => Q v u + ((if v = w ∧ w < u then Q l u else 0) + (if u = w ∧ w < v then Q l v else 0))
theorem ctN_I (l w : Nat) (Q : Nat → Nat → Nat) : (fun v u => ((ctN l w Q v u : Nat) : Int)) = ctq l w (fun v u => (Q v u : Int)) := by
  funext v u
  show ((Q v u + ((if v = w ∧ w < u then Q l u else 0) + (if u = w ∧ w < v then Q l v else 0)) : Nat) : Int) = (Q v u : Int) + ((if v = w ∧ w < u then (Q l u : Int) else 0) + (if u = w ∧ w < v then (Q l v : Int) else 0))
  by_cases h1 : v = w ∧ w < u
  · by_cases h2 : u = w ∧ w < v
    · omega
    · rw [if_pos h1, if_pos h1, if_neg h2, if_neg h2]; omega
  · by_cases h2 : u = w ∧ w < v
    · rw [if_neg h1, if_neg h1, if_pos h2, if_pos h2]; omega
    · rw [if_neg h1, if_neg h1, if_neg h2, if_neg h2]; omega
theorem ctN_bd {l w B : Nat} {Q : Nat → Nat → Nat} (h : ∀ v u, Q v u ≤ B) (v u : Nat) : ctN l w Q v u ≤ 2 * B := by
  have h1 := h v u
  have h2 := h l u
  have h3 := h l v
  unfold ctN
  by_cases e1 : v = w ∧ w < u
  · rw [if_pos e1, if_neg (show ¬ (u = w ∧ w < v) by omega)]; omega
  · rw [if_neg e1]
    split <;> omega
theorem mgV_at {s o : Nat} (hs : 1 ≤ s) (hs6 : s ≤ 6) (ho : o < s - 1) {q : Nat → Int32} {Q : Nat → Nat → Nat} (hq : ∀ v u, v < s - 1 → u < s - 1 → q ((s * 6 + v) * 6 + u) = nI (Q v u)) (hl : ∀ u, u < s - 1 → u ≠ o → q ((s * 6 + (s - 1)) * 6 + u) = nI (if u < o then 0 else Q (s - 1) u)) :
    (∀ v u, v < s - 1 → u < s - 1 → mgV s o q (((s - 1) * 6 + v) * 6 + u) = nI (ctN (s - 1) o Q v u)) ∧ ∀ L a b, L ≠ s - 1 → a < 6 → b < 6 → mgV s o q ((L * 6 + a) * 6 + b) = q ((L * 6 + a) * 6 + b) := by
  have hB := mgB_at hs hs6 (q := q) (s - 1) (by omega)
  unfold mgV
  constructor
  · intro v u hv hu
    rw [mgD_at hs hs6 ho (s - 1) (Nat.le_refl _) (s - 1) v u (by omega) (by omega), hB (s - 1) v u (by omega) (by omega), if_pos (show s - 1 = s - 1 ∧ v < s - 1 ∧ u < s - 1 from ⟨rfl, hv, hu⟩), hq v u hv hu, hB s (s - 1) u (by omega) (by omega), hB s (s - 1) v (by omega) (by omega), if_neg (show ¬ (s = s - 1 ∧ s - 1 < s - 1 ∧ u < s - 1) by omega), if_neg (show ¬ (s = s - 1 ∧ s - 1 < s - 1 ∧ v < s - 1) by omega)]
    unfold ctN
    by_cases h1 : v = o ∧ u ≠ o
    · rw [if_pos ⟨rfl, h1.1, hu, h1.2⟩, hl u hu h1.2, nI_add, if_neg (show ¬ (u = o ∧ o < v) by omega), Nat.add_zero]
      by_cases h2 : u < o
      · rw [if_pos h2, if_neg (show ¬ (v = o ∧ o < u) by omega)]
      · rw [if_neg h2, if_pos (show v = o ∧ o < u by omega)]
    · rw [if_neg (show ¬ (s - 1 = s - 1 ∧ v = o ∧ u < s - 1 ∧ u ≠ o) by omega), if_neg (show ¬ (v = o ∧ o < u) by omega), Nat.zero_add]
      by_cases h3 : u = o ∧ v ≠ o
      · rw [if_pos ⟨rfl, h3.1, hv, h3.2⟩, hl v hv h3.2, nI_add]
        by_cases h2 : v < o
        · rw [if_pos h2, if_neg (show ¬ (u = o ∧ o < v) by omega)]
        · rw [if_neg h2, if_pos (show u = o ∧ o < v by omega)]
      · rw [if_neg (show ¬ (s - 1 = s - 1 ∧ u = o ∧ v < s - 1 ∧ v ≠ o) by omega), if_neg (show ¬ (u = o ∧ o < v) by omega), Nat.add_zero]
  · intro L a b hL ha hb
    rw [mgD_at hs hs6 ho (s - 1) (Nat.le_refl _) L a b ha hb, if_neg (fun w => hL w.1), if_neg (fun w => hL w.1), hB L a b ha hb, if_neg (fun w => hL w.1)]
theorem tC_s (k : Nat) (q : Nat → Nat → Int) : tC (k + 2) q = sI (fun w => q (k + 1) w * tC (k + 1) (ctq (k + 1) w q)) (k + 1) := rfl
/-- the loop over the edges of the last vertex, the recursion given -/
theorem clW_go {k : Nat} (hk : k + 2 ≤ 6) (ih : ∀ (q : Nat → Int32) (Q : Nat → Nat → Nat), (∀ v u, v < k + 1 → u < k + 1 → q (((k + 1) * 6 + v) * 6 + u) = nI (Q v u)) → (∀ v u, Q v u ≤ 3 * 2 ^ (6 - (k + 1))) → (clL (k + 1) q).1 = lI (tC (k + 1) (fun v u => (Q v u : Int))) ∧ ∀ L a b, k + 1 < L → a < 6 → b < 6 → (clL (k + 1) q).2 ((L * 6 + a) * 6 + b) = q ((L * 6 + a) * 6 + b))
    {q : Nat → Int32} {Q : Nat → Nat → Nat} (hq : ∀ v u, v < k + 2 → u < k + 2 → q (((k + 2) * 6 + v) * 6 + u) = nI (Q v u)) (hQ : ∀ v u, Q v u ≤ 3 * 2 ^ (6 - (k + 2))) : ∀ w, w ≤ k + 1 →
    (clW (clL (k + 1)) (k + 2) q w).1 = lI (sI (fun w => (Q (k + 1) w : Int) * tC (k + 1) (ctq (k + 1) w (fun v u => (Q v u : Int)))) w) ∧
    (∀ L a b, k + 2 < L → a < 6 → b < 6 → (clW (clL (k + 1)) (k + 2) q w).2 ((L * 6 + a) * 6 + b) = q ((L * 6 + a) * 6 + b)) ∧
    (∀ v u, v < k + 1 → u < k + 1 → (clW (clL (k + 1)) (k + 2) q w).2 (((k + 2) * 6 + v) * 6 + u) = nI (Q v u)) ∧
    ∀ u, u < k + 1 → (clW (clL (k + 1)) (k + 2) q w).2 (((k + 2) * 6 + (k + 1)) * 6 + u) = nI (if u < w then 0 else Q (k + 1) u)
  | 0, _ => ⟨lI_0.symm, fun _ _ _ _ _ _ => rfl, fun v u hv hu => hq v u (by omega) (by omega), fun u hu => by rw [if_neg (Nat.not_lt_zero _)]; exact hq (k + 1) u (by omega) (by omega)⟩
  | w + 1, hw => by
    obtain ⟨h1, h2, h3, h4⟩ := clW_go hk ih hq hQ w (by omega)
    have hp2 : 3 * 2 ^ (6 - (k + 1)) = 2 * (3 * 2 ^ (6 - (k + 2))) := by
      rw [show 6 - (k + 1) = (6 - (k + 2)) + 1 by omega, Nat.pow_succ]; omega
    have hp3 : 2 ^ (6 - (k + 2)) ≤ 2 ^ 6 := Nat.pow_le_pow_right (by omega) (by omega)
    have hQw := hQ (k + 1) w
    have hx := h4 w (by omega)
    rw [if_neg (Nat.lt_irrefl _)] at hx
    have e : clW (clL (k + 1)) (k + 2) q (w + 1) = if (clW (clL (k + 1)) (k + 2) q w).2 (((k + 2) * 6 + (k + 2 - 1)) * 6 + w) ≤ 0 then clW (clL (k + 1)) (k + 2) q w else
      ((clW (clL (k + 1)) (k + 2) q w).1 + ((clW (clL (k + 1)) (k + 2) q w).2 (((k + 2) * 6 + (k + 2 - 1)) * 6 + w)).toInt64 * (clL (k + 1) (mgV (k + 2) w (upd (clW (clL (k + 1)) (k + 2) q w).2 (((k + 2) * 6 + (k + 2 - 1)) * 6 + w) 0))).1, (clL (k + 1) (mgV (k + 2) w (upd (clW (clL (k + 1)) (k + 2) q w).2 (((k + 2) * 6 + (k + 2 - 1)) * 6 + w) 0))).2) := rfl
    rw [e, show k + 2 - 1 = k + 1 by omega, hx]
    by_cases hz : Q (k + 1) w = 0
    · rw [if_pos ((nI_le0 (by omega)).mpr hz)]
      refine ⟨?_, h2, h3, fun u hu => ?_⟩
      · rw [h1]
        show lI _ = lI (_ + (Q (k + 1) w : Int) * _)
        rw [hz]
        congr 1
        show _ = _ + ((0 : Nat) : Int) * _
        rw [show ((0 : Nat) : Int) = 0 from rfl, Int.zero_mul, Int.add_zero]
      · rw [h4 u hu]
        congr 1
        by_cases hu2 : u < w
        · rw [if_pos hu2, if_pos (show u < w + 1 by omega)]
        · rw [if_neg hu2]
          by_cases hu3 : u = w
          · rw [hu3, if_pos (by omega), hz]
          · rw [if_neg (show ¬ u < w + 1 by omega)]
    · rw [if_neg (fun c => hz ((nI_le0 (by omega)).mp c))]
      have u1 : ∀ L a b, a < 6 → b < 6 → ¬ (L = k + 2 ∧ a = k + 1 ∧ b = w) → upd (clW (clL (k + 1)) (k + 2) q w).2 (((k + 2) * 6 + (k + 1)) * 6 + w) 0 ((L * 6 + a) * 6 + b) = (clW (clL (k + 1)) (k + 2) q w).2 ((L * 6 + a) * 6 + b) := fun L a b ha hb hn => upd_n _ _ (fun q => hn (idx_inj ha hb (by omega) (by omega) q))
      obtain ⟨m1, m2⟩ := mgV_at (s := k + 2) (o := w) (by omega) (by omega) (by omega) (q := upd (clW (clL (k + 1)) (k + 2) q w).2 (((k + 2) * 6 + (k + 1)) * 6 + w) 0) (Q := Q) (fun v u hv hu => by
        rw [u1 (k + 2) v u (by omega) (by omega) (by omega)]
        exact h3 v u (by omega) (by omega)) (fun u hu huw => by
        rw [show k + 2 - 1 = k + 1 by omega, u1 (k + 2) (k + 1) u (by omega) (by omega) (by omega)]
        exact h4 u (by omega))
      rw [show k + 2 - 1 = k + 1 by omega] at m1 m2
      obtain ⟨r1, r2⟩ := ih (mgV (k + 2) w (upd (clW (clL (k + 1)) (k + 2) q w).2 (((k + 2) * 6 + (k + 1)) * 6 + w) 0)) (ctN (k + 1) w Q) m1 (fun v u => by rw [hp2]; exact ctN_bd hQ v u)
      refine ⟨?_, fun L a b hL ha hb => ?_, fun v u hv hu => ?_, fun u hu => ?_⟩
      · show _ + (nI (Q (k + 1) w)).toInt64 * _ = lI (sI _ w + (Q (k + 1) w : Int) * _)
        rw [h1, r1, ctN_I, ← iI_n, iI_64 (by omega) (by omega), lI_mul, lI_add]
      · show (clL (k + 1) _).2 ((L * 6 + a) * 6 + b) = _
        rw [r2 L a b (by omega) ha hb, m2 L a b (by omega) ha hb, u1 L a b ha hb (by omega)]
        exact h2 L a b hL ha hb
      · show (clL (k + 1) _).2 (((k + 2) * 6 + v) * 6 + u) = _
        rw [r2 (k + 2) v u (by omega) (by omega) (by omega), m2 (k + 2) v u (by omega) (by omega) (by omega), u1 (k + 2) v u (by omega) (by omega) (by omega)]
        exact h3 v u hv hu
      · show (clL (k + 1) _).2 (((k + 2) * 6 + (k + 1)) * 6 + u) = _
        rw [r2 (k + 2) (k + 1) u (by omega) (by omega) (by omega), m2 (k + 2) (k + 1) u (by omega) (by omega) (by omega)]
        by_cases hu3 : u = w
        · rw [hu3, upd_s, if_pos (by omega), nI_0]
        · rw [u1 (k + 2) (k + 1) u (by omega) (by omega) (by omega), h4 u hu]
          congr 1
          by_cases hu2 : u < w
          · rw [if_pos hu2, if_pos (show u < w + 1 by omega)]
          · rw [if_neg hu2, if_neg (show ¬ u < w + 1 by omega)]
theorem clL_go : ∀ k, k + 1 ≤ 6 → ∀ (q : Nat → Int32) (Q : Nat → Nat → Nat), (∀ v u, v < k + 1 → u < k + 1 → q (((k + 1) * 6 + v) * 6 + u) = nI (Q v u)) → (∀ v u, Q v u ≤ 3 * 2 ^ (6 - (k + 1))) → (clL (k + 1) q).1 = lI (tC (k + 1) (fun v u => (Q v u : Int))) ∧ ∀ L a b, k + 1 < L → a < 6 → b < 6 → (clL (k + 1) q).2 ((L * 6 + a) * 6 + b) = q ((L * 6 + a) * 6 + b)
  | 0, _, q, Q, _, _ => ⟨lI_1.symm, fun _ _ _ _ _ _ => rfl⟩
  | k + 1, hk, q, Q, hq, hQ => by
    obtain ⟨h1, h2, _, _⟩ := clW_go (k := k) hk (clL_go k (by omega)) hq hQ (k + 1) (Nat.le_refl _)
    rw [clL_s]
    exact ⟨h1, h2⟩
theorem ctA_at {n v : Nat} {fj q : Nat → Int32} : ∀ w, w ≤ 6 → ∀ a b, a < 6 → b < 6 → ctA n fj v q w ((n * 6 + a) * 6 + b) = if a = v ∧ b < w then fj (v * 6 + b) else q ((n * 6 + a) * 6 + b)
  | 0, _, a, b, _, _ => by rw [if_neg (fun h => Nat.not_lt_zero _ h.2)]; rfl
  | w + 1, hw, a, b, ha, hb => by
    have ih := ctA_at (n := n) (v := v) (fj := fj) (q := q) w (by omega)
    show upd (ctA n fj v q w) ((n * 6 + v) * 6 + w) (fj (v * 6 + w)) ((n * 6 + a) * 6 + b) = _
    by_cases h : a = v ∧ b = w
    · obtain ⟨rfl, rfl⟩ := h
      rw [upd_s, if_pos ⟨rfl, by omega⟩]
    · by_cases hv : v < 6
      · rw [upd_n _ _ (by omega), ih a b ha hb]
        by_cases h2 : a = v ∧ b < w
        · rw [if_pos h2, if_pos (show a = v ∧ b < w + 1 by omega)]
        · rw [if_neg h2, if_neg (show ¬ (a = v ∧ b < w + 1) by omega)]
      · rw [upd_n _ _ (by omega), ih a b ha hb, if_neg (show ¬ (a = v ∧ b < w) by omega), if_neg (show ¬ (a = v ∧ b < w + 1) by omega)]
theorem ctB_at {n : Nat} (hn : n ≤ 6) {fj q : Nat → Int32} : ∀ v, v ≤ n → ∀ a b, a < 6 → b < 6 → ctB n fj q v ((n * 6 + a) * 6 + b) = if a < v ∧ b < n then fj (a * 6 + b) else q ((n * 6 + a) * 6 + b)
  | 0, _, a, b, _, _ => by rw [if_neg (fun h => Nat.not_lt_zero _ h.1)]; rfl
  | v + 1, hv, a, b, ha, hb => by
    have ih := ctB_at hn (fj := fj) (q := q) v (by omega)
    show ctA n fj v (ctB n fj q v) n ((n * 6 + a) * 6 + b) = _
    rw [ctA_at n hn a b ha hb, ih a b ha hb]
    by_cases h : a = v ∧ b < n
    · rw [if_pos h, if_pos (show a < v + 1 ∧ b < n by omega), h.1]
    · rw [if_neg h]
      by_cases h2 : a < v ∧ b < n
      · rw [if_pos h2, if_pos (show a < v + 1 ∧ b < n by omega)]
      · rw [if_neg h2, if_neg (show ¬ (a < v + 1 ∧ b < n) by omega)]
/-- the class's second count -/
theorem left_law {m : Nat} {E : Nat → Nat → Nat} (hG : Gr (m + 1) E) {z : Nat} (hz : z < m + 1) (q9 : Nat → Int32) : (clL (m + 1) (ctB (m + 1) (fjE E) q9 (m + 1))).1 = lI (det m (LM E z)) := by
  have hn := hG.1
  have h := (clL_go m hn (ctB (m + 1) (fjE E) q9 (m + 1)) E (fun v u hv hu => by
    rw [ctB_at hn (m + 1) (Nat.le_refl _) v u (by omega) (by omega), if_pos ⟨hv, hu⟩, fjE_at E (by omega)]) (fun v u => by
    have h1 := hG.2.2.2.2 v u
    have h2 : 0 < 2 ^ (6 - (m + 1)) := Nat.pow_pos (by omega)
    omega)).1
  rw [h, left_det hG hz]
