/-! TREES by taking the edges of the last vertex away -/
def ctq (l w : Nat) (q : Nat → Nat → Int) : Nat → Nat → Int := fun v u => q v u + ((if v = w ∧ w < u then q l u else 0) + (if u = w ∧ w < v then q l v else 0))
def tC : Nat → (Nat → Nat → Int) → Int
  | 0, _ => 0
  | 1, _ => 1
  | s + 2, q => sI (fun w => q (s + 1) w * tC (s + 1) (ctq (s + 1) w q)) (s + 1)
/-- the matrix of the first s vertices but 0 -/
def LapQ (s : Nat) (q : Nat → Nat → Int) : Nat → Nat → Int := fun i j => if i = 0 ∨ j = 0 ∨ s ≤ i ∨ s ≤ j then (if i = j then 1 else 0) else if i = j then sI (fun u => if u = i then 0 else q i u) s else - q i j
/-- the edges of l to those below w gone -/
def cutq (l w : Nat) (q : Nat → Nat → Int) : Nat → Nat → Int := fun v u => if (v = l ∧ u < w) ∨ (u = l ∧ v < w) then 0 else q v u
theorem LapQ_last {l : Nat} (hl : 1 ≤ l) (q : Nat → Nat → Int) : det 6 (LapQ (l + 1) (cutq l l q)) = if l < 6 then 0 else det 6 (LapQ (l + 1) (cutq l l q)) := by
  by_cases h : l < 6
  · rw [if_pos h]
    refine det_row0 h fun j => ?_
    unfold LapQ
    by_cases hj : j = 0 ∨ l + 1 ≤ j
    · rw [if_pos (by omega), if_neg (by omega)]
    · rw [if_neg (by omega)]
      by_cases hjl : l = j
      · subst hjl
        rw [if_pos rfl]
        refine sI_0 fun u hu => ?_
        by_cases hul : u = l
        · rw [if_pos hul]
        · rw [if_neg hul]; unfold cutq; rw [if_pos (by omega)]
      · rw [if_neg hjl]; unfold cutq; rw [if_pos (by omega)]; rfl
  · rw [if_neg h]
theorem LapQ_step0 {l : Nat} (hl : 1 ≤ l) (hl6 : l < 6) {q : Nat → Nat → Int} (hs : ∀ i j, q i j = q j i) : det 6 (LapQ (l + 1) (cutq l 0 q)) = det 6 (LapQ (l + 1) (cutq l 1 q)) + q l 0 * det 6 (LapQ l (ctq l 0 q)) := by
  have e1 : det 6 (idr l (LapQ (l + 1) (cutq l 1 q))) = det 6 (LapQ l (ctq l 0 q)) := det_congr fun i j hi hj => by
    unfold idr
    by_cases h : i = l ∨ j = l
    · exact (if_pos h).trans (if_pos (show i = 0 ∨ j = 0 ∨ l ≤ i ∨ l ≤ j by omega)).symm
    · rw [if_neg h]
      unfold LapQ
      by_cases h2 : i = 0 ∨ j = 0 ∨ l ≤ i ∨ l ≤ j
      · rw [if_pos (by omega), if_pos h2]
      · rw [if_neg (by omega), if_neg h2]
        by_cases hij : i = j
        · rw [if_pos hij, if_pos hij]
          show sI (fun u => if u = i then 0 else cutq l 1 q i u) l + (if l = i then 0 else cutq l 1 q i l) = _
          rw [if_neg (by omega)]
          have h3 : cutq l 1 q i l = q i l := by unfold cutq; rw [if_neg (by omega)]
          rw [h3]
          have h4 := sI_upd (f := fun u => if u = i then 0 else cutq l 1 q i u) (g := fun u => if u = i then 0 else ctq l 0 q i u) 0 (n := l) (by omega) (fun u hu hu0 => by
            by_cases hui : u = i
            · simp only [if_pos hui]
            · simp only [if_neg hui]
              unfold ctq cutq
              rw [if_neg (by omega), if_neg (by omega), if_neg (by omega)]; omega)
          have h5 : (if (0 : Nat) = i then 0 else ctq l 0 q i 0) = q i 0 + q l i := by
            rw [if_neg (by omega)]; unfold ctq; rw [if_neg (by omega), if_pos (by omega)]; omega
          have h6 : (if (0 : Nat) = i then 0 else cutq l 1 q i 0) = q i 0 := by
            rw [if_neg (by omega)]; unfold cutq; rw [if_neg (by omega)]
          rw [h5, h6] at h4
          rw [h4, hs i l]; omega
        · rw [if_neg hij, if_neg hij]
          unfold ctq cutq
          rw [if_neg (by omega), if_neg (by omega), if_neg (by omega)]; omega
  rw [← e1]
  refine det_R0 (m := 5) (i := l) (by omega) (q l 0) fun r c => ?_
  unfold LapQ
  by_cases h2 : r = 0 ∨ c = 0 ∨ l + 1 ≤ r ∨ l + 1 ≤ c
  · rw [if_pos h2, if_pos h2, if_neg (show ¬ (r = l ∧ c = l) by omega), Int.add_zero]
  · rw [if_neg h2, if_neg h2]
    by_cases hrc : r = c
    · rw [if_pos hrc, if_pos hrc]
      by_cases hrl : r = l
      · rw [if_pos (by omega)]
        subst hrl
        have h4 := sI_upd (f := fun u => if u = r then 0 else cutq r 1 q r u) (g := fun u => if u = r then 0 else cutq r 0 q r u) 0 (n := r + 1) (by omega) (fun u hu hu0 => by
          by_cases hui : u = r
          · simp only [if_pos hui]
          · simp only [if_neg hui]
            unfold cutq
            rw [if_neg (by omega), if_neg (by omega)])
        have h5 : (if (0 : Nat) = r then 0 else cutq r 0 q r 0) = q r 0 := by
          rw [if_neg (by omega)]; unfold cutq; rw [if_neg (by omega)]
        have h6 : (if (0 : Nat) = r then 0 else cutq r 1 q r 0) = 0 := by
          rw [if_neg (by omega)]; unfold cutq; rw [if_pos (by omega)]
        rw [h5, h6] at h4
        rw [h4]; omega
      · rw [if_neg (by omega), Int.add_zero]
        refine sI_congr fun u hu => ?_
        by_cases hui : u = r
        · rw [if_pos hui, if_pos hui]
        · rw [if_neg hui, if_neg hui]
          unfold cutq
          rw [if_neg (by omega), if_neg (by omega)]
    · rw [if_neg hrc, if_neg hrc, if_neg (by omega)]
      unfold cutq
      rw [if_neg (by omega), if_neg (by omega)]; omega
theorem LapQ_step {l w : Nat} (hw : 1 ≤ w) (hwl : w < l) (hl6 : l < 6) {q : Nat → Nat → Int} (hs : ∀ i j, q i j = q j i) : det 6 (LapQ (l + 1) (cutq l w q)) = det 6 (LapQ (l + 1) (cutq l (w + 1) q)) + q l w * det 6 (LapQ l (ctq l w q)) := by
  -- what row l has, and the others
  have hcut : ∀ i, i < l → i ≠ w → ∀ u, cutq l (w + 1) q i u = cutq l w q i u := fun i hi hiw u => by
    unfold cutq
    by_cases h : (i = l ∧ u < w) ∨ (u = l ∧ i < w)
    · rw [if_pos h, if_pos (by omega)]
    · rw [if_neg h, if_neg (by omega)]
  have e1 : det 6 (idr l (pij l w (LapQ (l + 1) (cutq l (w + 1) q)))) = det 6 (LapQ l (ctq l w q)) := det_congr fun i j hi hj => by
    unfold idr
    by_cases h : i = l ∨ j = l
    · exact (if_pos h).trans (if_pos (show i = 0 ∨ j = 0 ∨ l ≤ i ∨ l ≤ j by omega)).symm
    · rw [if_neg h]
      have hA : ∀ r c, LapQ (l + 1) (cutq l (w + 1) q) r c = if r = 0 ∨ c = 0 ∨ l + 1 ≤ r ∨ l + 1 ≤ c then (if r = c then 1 else 0) else if r = c then sI (fun u => if u = r then 0 else cutq l (w + 1) q r u) (l + 1) else - cutq l (w + 1) q r c := fun _ _ => rfl
      by_cases h2 : i = 0 ∨ j = 0 ∨ l ≤ i ∨ l ≤ j
      · have hR : LapQ l (ctq l w q) i j = if i = j then 1 else 0 := if_pos h2
        rw [hR]
        unfold pij
        have v1 : LapQ (l + 1) (cutq l (w + 1) q) i j = if i = j then 1 else 0 := if_pos (show i = 0 ∨ j = 0 ∨ l + 1 ≤ i ∨ l + 1 ≤ j by omega)
        have v2 : (if i = w then LapQ (l + 1) (cutq l (w + 1) q) l j else 0) = 0 := by
          by_cases hiw : i = w
          · exact (if_pos hiw).trans ((if_pos (show l = 0 ∨ j = 0 ∨ l + 1 ≤ l ∨ l + 1 ≤ j by omega)).trans (if_neg (show ¬ l = j by omega)))
          · exact if_neg hiw
        have v3 : (if j = w then LapQ (l + 1) (cutq l (w + 1) q) i l else 0) = 0 := by
          by_cases hjw : j = w
          · exact (if_pos hjw).trans ((if_pos (show i = 0 ∨ l = 0 ∨ l + 1 ≤ i ∨ l + 1 ≤ l by omega)).trans (if_neg (show ¬ i = l by omega)))
          · exact if_neg hjw
        rw [v1, v2, v3, if_neg (show ¬ (i = w ∧ j = w) by omega)]; simp
      · have hR : LapQ l (ctq l w q) i j = if i = j then sI (fun u => if u = i then 0 else ctq l w q i u) l else - ctq l w q i j := if_neg h2
        rw [hR]
        unfold pij
        rw [hA i j, hA l j, hA i l, hA l l, if_neg (by omega), if_neg (show ¬ (l = 0 ∨ j = 0 ∨ l + 1 ≤ l ∨ l + 1 ≤ j) by omega), if_neg (show ¬ (i = 0 ∨ l = 0 ∨ l + 1 ≤ i ∨ l + 1 ≤ l) by omega), if_neg (show ¬ (l = 0 ∨ l = 0 ∨ l + 1 ≤ l ∨ l + 1 ≤ l) by omega), if_neg (show ¬ l = j by omega), if_neg (show ¬ i = l by omega), if_pos (show l = l from rfl)]
        by_cases hij : i = j
        · subst hij
          rw [if_pos rfl, if_pos rfl]
          show sI (fun u => if u = i then 0 else cutq l (w + 1) q i u) l + (if l = i then 0 else cutq l (w + 1) q i l) + _ + _ = _
          rw [if_neg (show ¬ l = i by omega)]
          by_cases hiw : i = w
          · subst hiw
            simp only [if_true, and_self]
            have c1 : cutq l (i + 1) q i l = 0 := by unfold cutq; rw [if_pos (by omega)]
            have c2 : cutq l (i + 1) q l i = 0 := by unfold cutq; rw [if_pos (by omega)]
            rw [c1, c2]
            have c3 : sI (fun u => if u = l then 0 else cutq l (i + 1) q l u) (l + 1) = sI (fun u => if i < u then q l u else 0) l := by
              show sI (fun u => if u = l then 0 else cutq l (i + 1) q l u) l + (if l = l then 0 else _) = _
              rw [if_pos rfl, Int.add_zero]
              refine sI_congr fun u hu => ?_
              rw [if_neg (by omega)]
              unfold cutq
              by_cases h3 : i < u
              · rw [if_pos h3, if_neg (by omega)]
              · rw [if_neg h3, if_pos (by omega)]
            rw [c3]
            have c4 : sI (fun u => if u = i then 0 else ctq l i q i u) l = sI (fun u => (if u = i then 0 else cutq l (i + 1) q i u) + (if i < u then q l u else 0)) l := sI_congr fun u hu => by
              by_cases hui : u = i
              · rw [if_pos hui, if_pos hui, if_neg (by omega)]; rfl
              · rw [if_neg hui, if_neg hui]
                unfold ctq cutq
                rw [if_neg (show ¬ ((i = l ∧ u < i + 1) ∨ (u = l ∧ i < i + 1)) by omega)]
                by_cases h3 : i < u
                · rw [if_pos ⟨rfl, h3⟩, if_neg (by omega), if_pos h3]; omega
                · rw [if_neg (by omega), if_neg (by omega), if_neg h3]; rfl
            rw [c4, sI_add]; omega
          · simp only [hiw, if_false, false_and]
            have h7 : cutq l (w + 1) q i l = if i < w then 0 else q i l := by
              unfold cutq
              by_cases h8 : i < w
              · rw [if_pos h8, if_pos (by omega)]
              · rw [if_neg h8, if_neg (by omega)]
            have h4 := sI_upd (f := fun u => if u = i then 0 else cutq l (w + 1) q i u) (g := fun u => if u = i then 0 else ctq l w q i u) w (n := l) hwl (fun u hu huw => by
              by_cases hui : u = i
              · simp only [if_pos hui]
              · simp only [if_neg hui]
                unfold ctq cutq
                rw [if_neg (by omega), if_neg (by omega), if_neg (by omega)]; omega)
            have h5 : (if w = i then 0 else ctq l w q i w) = q i w + (if w < i then q l i else 0) := by
              rw [if_neg (by omega)]; unfold ctq; rw [if_neg (by omega)]
              by_cases h8 : w < i
              · rw [if_pos ⟨rfl, h8⟩, if_pos h8]; omega
              · rw [if_neg (by omega), if_neg h8]; omega
            have h6 : (if w = i then 0 else cutq l (w + 1) q i w) = q i w := by
              rw [if_neg (by omega)]; unfold cutq; rw [if_neg (by omega)]
            rw [h5, h6] at h4
            rw [h4, h7, hs i l]
            by_cases h8 : i < w
            · rw [if_pos h8, if_neg (by omega)]; omega
            · rw [if_neg h8, if_pos (by omega)]; omega
        · rw [if_neg hij, if_neg hij]
          have o1 : cutq l (w + 1) q i j = q i j := by unfold cutq; rw [if_neg (by omega)]
          rw [o1]
          by_cases hiw : i = w
          · have hjw : ¬ j = w := fun q => hij (by omega)
            simp only [hiw, hjw, if_true, if_false, and_false]
            unfold ctq cutq
            by_cases h8 : w < j
            · rw [if_neg (show ¬ ((l = l ∧ j < w + 1) ∨ (j = l ∧ l < w + 1)) by omega), if_pos ⟨rfl, h8⟩, if_neg (by omega)]; omega
            · rw [if_pos (show (l = l ∧ j < w + 1) ∨ (j = l ∧ l < w + 1) by omega), if_neg (by omega), if_neg (by omega)]; omega
          · by_cases hjw : j = w
            · simp only [hiw, hjw, if_true, if_false, false_and]
              unfold ctq cutq
              by_cases h8 : w < i
              · rw [if_neg (show ¬ ((i = l ∧ l < w + 1) ∨ (l = l ∧ i < w + 1)) by omega), if_neg (by omega), if_pos ⟨rfl, h8⟩, hs i l]; omega
              · rw [if_pos (show (i = l ∧ l < w + 1) ∨ (l = l ∧ i < w + 1) by omega), if_neg (by omega), if_neg (by omega)]; omega
            · simp only [hiw, hjw, if_false, false_and]
              unfold ctq
              rw [if_neg (by omega), if_neg (by omega)]; omega
  rw [← e1]
  refine det_R1 (m := 5) (i := l) (j := w) (by omega) (by omega) (by omega) (q l w) fun r c => ?_
  unfold LapQ
  by_cases h2 : r = 0 ∨ c = 0 ∨ l + 1 ≤ r ∨ l + 1 ≤ c
  · rw [if_pos h2, if_pos h2]
    by_cases hr : r = l
    · subst hr
      rw [if_neg (show ¬ c = r by omega), if_neg (show ¬ c = w by omega)]; simp
    · by_cases hr2 : r = w
      · subst hr2
        rw [if_neg (show ¬ c = l by omega), if_neg (show ¬ c = r by omega)]; simp
      · rw [if_neg hr, if_neg hr2]; simp
  · rw [if_neg h2, if_neg h2]
    by_cases hrc : r = c
    · subst hrc
      rw [if_pos rfl, if_pos rfl]
      by_cases hrl : r = l
      · subst hrl
        rw [if_pos rfl, if_neg (show ¬ r = w by omega)]
        have h4 := sI_upd (f := fun u => if u = r then 0 else cutq r (w + 1) q r u) (g := fun u => if u = r then 0 else cutq r w q r u) w (n := r + 1) (by omega) (fun u hu hu0 => by
          by_cases hui : u = r
          · simp only [if_pos hui]
          · simp only [if_neg hui]
            unfold cutq
            by_cases h8 : u < w
            · rw [if_pos (by omega), if_pos (by omega)]
            · rw [if_neg (by omega), if_neg (by omega)])
        have h5 : (if w = r then 0 else cutq r w q r w) = q r w := by
          rw [if_neg (by omega)]; unfold cutq; rw [if_neg (by omega)]
        have h6 : (if w = r then 0 else cutq r (w + 1) q r w) = 0 := by
          rw [if_neg (by omega)]; unfold cutq; rw [if_pos (by omega)]
        rw [h5, h6] at h4
        rw [h4]; omega
      · by_cases hrw : r = w
        · subst hrw
          rw [if_neg hrl, if_pos rfl]
          show sI (fun u => if u = r then 0 else cutq l r q r u) l + (if l = r then 0 else cutq l r q r l) = sI (fun u => if u = r then 0 else cutq l (r + 1) q r u) l + (if l = r then 0 else cutq l (r + 1) q r l) + _
          rw [if_neg (by omega), if_neg (by omega)]
          have a1 : cutq l r q r l = q r l := by unfold cutq; rw [if_neg (by omega)]
          have a2 : cutq l (r + 1) q r l = 0 := by unfold cutq; rw [if_pos (by omega)]
          rw [a1, a2, sI_congr (g := fun u => if u = r then 0 else cutq l (r + 1) q r u) fun u hu => by
            by_cases hui : u = r
            · rw [if_pos hui, if_pos hui]
            · rw [if_neg hui, if_neg hui]; unfold cutq; rw [if_neg (by omega), if_neg (by omega)], hs r l]
          omega
        · rw [if_neg hrl, if_neg hrw]
          have := sI_congr (f := fun u => if u = r then 0 else cutq l w q r u) (g := fun u => if u = r then 0 else cutq l (w + 1) q r u) (n := l + 1) fun u hu => by
            by_cases hui : u = r
            · simp only [if_pos hui]
            · simp only [if_neg hui]; exact (hcut r (by omega) hrw u).symm
          rw [this]; simp
    · rw [if_neg hrc, if_neg hrc]
      by_cases hrl : r = l
      · subst hrl
        rw [if_pos rfl, if_neg (show ¬ r = w by omega), if_neg (show ¬ c = r by omega)]
        by_cases hcw : c = w
        · subst hcw
          rw [if_pos rfl]
          unfold cutq
          rw [if_neg (by omega), if_pos (by omega)]; omega
        · rw [if_neg hcw]
          unfold cutq
          by_cases h8 : c < w
          · rw [if_pos (by omega), if_pos (by omega)]; simp
          · rw [if_neg (by omega), if_neg (by omega)]; simp
      · by_cases hrw : r = w
        · subst hrw
          rw [if_neg hrl, if_pos rfl, if_neg (show ¬ c = r by omega)]
          by_cases hcl : c = l
          · subst hcl
            rw [if_pos rfl]
            unfold cutq
            rw [if_neg (by omega), if_pos (by omega), hs r c]; omega
          · rw [if_neg hcl]
            unfold cutq
            rw [if_neg (by omega), if_neg (by omega)]; simp
        · rw [if_neg hrl, if_neg hrw, ← hcut r (by omega) hrw c]; simp
theorem ctq_sym {l w : Nat} {q : Nat → Nat → Int} (hs : ∀ i j, q i j = q j i) : ∀ i j, ctq l w q i j = ctq l w q j i := fun i j => by
  unfold ctq
  rw [hs i j]; omega
/-- trees by edges of the last vertex: the determinant again -/
theorem tC_det : ∀ (s : Nat) (q : Nat → Nat → Int), 1 ≤ s → s ≤ 6 → (∀ i j, q i j = q j i) → tC s q = det 6 (LapQ s q)
  | 0, _, h, _, _ => absurd h (by omega)
  | 1, q, _, _, _ => by
    refine (det_id 6).symm.trans (det_congr fun i j hi hj => ?_)
    unfold LapQ
    by_cases h : i = 0 ∨ j = 0 ∨ 1 ≤ i ∨ 1 ≤ j
    · rw [if_pos h]
    · omega
  | l + 2, q, _, h6, hs => by
    have ih : ∀ w, tC (l + 1) (ctq (l + 1) w q) = det 6 (LapQ (l + 1) (ctq (l + 1) w q)) := fun w => tC_det (l + 1) _ (by omega) (by omega) (ctq_sym hs)
    -- from w on
    have key : ∀ d, d ≤ l → det 6 (LapQ (l + 2) (cutq (l + 1) (l + 1 - d) q)) = sI (fun w => if l + 1 - d ≤ w then q (l + 1) w * det 6 (LapQ (l + 1) (ctq (l + 1) w q)) else 0) (l + 1) := by
      intro d
      induction d with
      | zero =>
        intro _
        have := LapQ_last (l := l + 1) (by omega) q
        rw [if_pos (by omega)] at this
        rw [show l + 1 - 0 = l + 1 by omega, this]
        exact (sI_0 fun w hw => if_neg (by omega)).symm
      | succ d ihd =>
        intro hd
        have e := LapQ_step (l := l + 1) (w := l + 1 - (d + 1)) (by omega) (by omega) (by omega) hs
        rw [e, show l + 1 - (d + 1) + 1 = l + 1 - d by omega, ihd (by omega)]
        have h4 := sI_upd (f := fun w => if l + 1 - d ≤ w then q (l + 1) w * det 6 (LapQ (l + 1) (ctq (l + 1) w q)) else 0) (g := fun w => if l + 1 - (d + 1) ≤ w then q (l + 1) w * det 6 (LapQ (l + 1) (ctq (l + 1) w q)) else 0) (l + 1 - (d + 1)) (n := l + 1) (by omega) (fun w hw hne => by
          by_cases h1 : l + 1 - d ≤ w
          · rw [if_pos h1, if_pos (by omega)]
          · rw [if_neg h1, if_neg (by omega)])
        rw [if_pos (Nat.le_refl _), if_neg (by omega)] at h4
        rw [h4]; omega
    have e0 := LapQ_step0 (l := l + 1) (by omega) (by omega) hs
    have ek := key l (Nat.le_refl _)
    rw [show l + 1 - l = 1 by omega] at ek
    have e1 : cutq (l + 1) 0 q = q := funext fun v => funext fun u => by unfold cutq; rw [if_neg (by omega)]
    rw [e1, ek] at e0
    rw [e0]
    show sI (fun w => q (l + 1) w * tC (l + 1) (ctq (l + 1) w q)) (l + 1) = _
    have h4 := sI_upd (f := fun w => if 1 ≤ w then q (l + 1) w * det 6 (LapQ (l + 1) (ctq (l + 1) w q)) else 0) (g := fun w => q (l + 1) w * tC (l + 1) (ctq (l + 1) w q)) 0 (n := l + 1) (by omega) (fun w hw hne => by
      rw [if_pos (by omega), ih])
    rw [if_neg (by omega), ih] at h4
    rw [h4]; omega
