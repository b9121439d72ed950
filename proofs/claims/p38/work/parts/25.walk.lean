/-! ROTORS: the bound of a walk; FIRE: by its places; CONNECTED: by rounds -/
theorem gap_bound {n : Nat} {E : Nat → Nat → Nat} (hn : n ≤ 6) (hS : ∀ i j, E i j = E j i) (hC : Conn n E) {z : Nat} (hz : z < n) {k : Nat → Nat} {T : Nat} (h0 : k z = 0) (hgap : ∀ a b, a < n → b < n → 0 < E a b → k a ≤ k b + T) : ∀ j, j < n → k j ≤ 5 * T := by
  have key : ∀ d : Nat, min n (d + 1) ≤ cnt (fun j => decide (k j ≤ d * T)) n := by
    intro d
    induction d with
    | zero =>
      have h1 := cnt_lt (P := fun _ => false) (Q := fun j => decide (k j ≤ 0 * T)) z hz rfl (by simp [h0]) (fun j _ q => by cases q)
      omega
    | succ d ih =>
      have hm : ∀ j, j < n → decide (k j ≤ d * T) = true → decide (k j ≤ (d + 1) * T) = true := fun j _ q => by
        simp only [decide_eq_true_eq] at q ⊢
        rw [Nat.succ_mul]; omega
      by_cases hall : ∃ u, u < n ∧ decide (k u ≤ d * T) = false
      · obtain ⟨v, w, hv, hw, h1, h2, h3⟩ := conn_out hC (S := fun j => decide (k j ≤ d * T)) ⟨z, hz, by simp [h0]⟩ hall
        have h4 := hgap w v hw hv (by rw [hS]; exact h3)
        have h5 := cnt_lt (P := fun j => decide (k j ≤ d * T)) (Q := fun j => decide (k j ≤ (d + 1) * T)) w hw h2 (by
          simp only [decide_eq_true_eq] at h1 ⊢
          rw [Nat.succ_mul]; omega) hm
        omega
      · have h6 : ∀ m, m ≤ n → cnt (fun j => decide (k j ≤ (d + 1) * T)) m = m := by
          intro m
          induction m with
          | zero => intro _; rfl
          | succ m ihm =>
            intro hmn
            show cnt _ m + _ = _
            rw [ihm (by omega)]
            have h7 : decide (k m ≤ d * T) = true := by
              cases hq : decide (k m ≤ d * T)
              · exact absurd ⟨m, by omega, hq⟩ hall
              · rfl
            have h8 := hm m (by omega) h7
            simp only [h8, if_true]
        rw [h6 n (Nat.le_refl _)]; omega
  intro j hj
  have h1 := key 5
  have h2 := cnt_all (P := fun j => decide (k j ≤ 5 * T)) (n := n) (by omega) j hj
  simpa using h2
/-- where the r-th edge in the row of v ends -/
def ptE (E : Nat → Nat → Nat) (v r : Nat) : Nat := if r < sumN (E v) 1 then 0 else if r < sumN (E v) 2 then 1 else if r < sumN (E v) 3 then 2 else if r < sumN (E v) 4 then 3 else if r < sumN (E v) 5 then 4 else 5
theorem ptE_iff {E : Nat → Nat → Nat} {v r w : Nat} (hr : r < dg E v) (hw : w < 6) : ptE E v r = w ↔ sumN (E v) w ≤ r ∧ r < sumN (E v) (w + 1) := by
  have e0 : sumN (E v) 0 = 0 := rfl
  have e1 : sumN (E v) 1 = sumN (E v) 0 + E v 0 := rfl
  have e2 : sumN (E v) 2 = sumN (E v) 1 + E v 1 := rfl
  have e3 : sumN (E v) 3 = sumN (E v) 2 + E v 2 := rfl
  have e4 : sumN (E v) 4 = sumN (E v) 3 + E v 3 := rfl
  have e5 : sumN (E v) 5 = sumN (E v) 4 + E v 4 := rfl
  have e6 : sumN (E v) 6 = sumN (E v) 5 + E v 5 := rfl
  have e7 : dg E v = sumN (E v) 6 := rfl
  unfold ptE
  have hw6 : w = 0 ∨ w = 1 ∨ w = 2 ∨ w = 3 ∨ w = 4 ∨ w = 5 := by omega
  rcases hw6 with rfl | rfl | rfl | rfl | rfl | rfl <;> simp only [Nat.reduceAdd] <;> (repeat' split) <;> omega
theorem ptE_lt {E : Nat → Nat → Nat} {v r : Nat} : ptE E v r < 6 := by
  unfold ptE
  (repeat' split) <;> omega
theorem ptE_edge {E : Nat → Nat → Nat} {v r : Nat} (hr : r < dg E v) : 0 < E v (ptE E v r) := by
  have h := (ptE_iff hr (ptE_lt (E := E) (v := v) (r := r))).mp rfl
  have h2 : sumN (E v) (ptE E v r + 1) = sumN (E v) (ptE E v r) + E v (ptE E v r) := rfl
  omega
theorem cnt_add (P : Nat → Bool) (a : Nat) : ∀ b, cnt P (a + b) = cnt P a + cnt (fun i => P (a + i)) b
  | 0 => rfl
  | b + 1 => by
    show cnt P (a + b) + (if P (a + b) = true then 1 else 0) = _ + (_ + if P (a + b) = true then 1 else 0)
    rw [cnt_add P a b]; omega
theorem cnt_eq {P Q : Nat → Bool} {n : Nat} (h : ∀ j, j < n → P j = Q j) : cnt P n = cnt Q n :=
  Nat.le_antisymm (cnt_mono fun j hj q => by rw [← h j hj]; exact q) (cnt_mono fun j hj q => by rw [h j hj]; exact q)
theorem cnt_rng (a b : Nat) : ∀ n, cnt (fun i => decide (a ≤ i) && decide (i < b)) n = min n b - min n a
  | 0 => by simp [cnt]
  | n + 1 => by
    show cnt _ n + _ = _
    rw [cnt_rng a b n]
    by_cases h1 : a ≤ n <;> by_cases h2 : n < b <;> simp [h1, h2] <;> omega
/-- turns of a window as long as the row: each edge once -/
theorem cnt_win {P : Nat → Bool} {d C : Nat} (hp : ∀ i, P (i + d) = P i) (hC : cnt P d = C) : ∀ a, cnt (fun i => P (a + i)) d = C
  | 0 => by
    rw [← hC]; exact cnt_eq fun j _ => by rw [Nat.zero_add]
  | a + 1 => by
    have h := cnt_win hp hC a
    have h1 := cnt_add (fun i => P (a + i)) 1 d
    have h2 := cnt_add (fun i => P (a + i)) d 1
    rw [Nat.add_comm 1 d] at h1
    have h3 : cnt (fun i => P (a + (1 + i))) d = cnt (fun i => P (a + 1 + i)) d := cnt_eq fun j _ => by rw [Nat.add_assoc]
    have h4 : cnt (fun i => P (a + i)) 1 = cnt (fun i => P (a + (d + i))) 1 := cnt_eq fun j _ => by
      have := hp (a + j)
      rw [← this]; congr 1; omega
    have h1' : cnt (fun i => P (a + i)) (d + 1) = cnt (fun i => P (a + i)) 1 + cnt (fun i => P (a + (1 + i))) d := h1
    have h2' : cnt (fun i => P (a + i)) (d + 1) = cnt (fun i => P (a + i)) d + cnt (fun i => P (a + (d + i))) 1 := h2
    omega
theorem cnt_wins {P : Nat → Bool} {d C : Nat} (hp : ∀ i, P (i + d) = P i) (hC : cnt P d = C) (a : Nat) : ∀ q, cnt (fun i => P (a + i)) (d * q) = C * q
  | 0 => rfl
  | q + 1 => by
    rw [Nat.mul_succ, cnt_add, cnt_wins hp hC a q, Nat.mul_succ]
    have h := cnt_win hp hC (a + d * q)
    have h2 : cnt (fun i => P (a + (d * q + i))) d = cnt (fun i => P (a + d * q + i)) d := cnt_eq fun j _ => by rw [Nat.add_assoc]
    show C * q + cnt (fun i => P (a + (d * q + i))) d = _
    omega
theorem cnt_le_len (P : Nat → Bool) {a b : Nat} (h : a ≤ b) : cnt P a ≤ cnt P b := by
  obtain ⟨c, rfl⟩ := Nat.exists_eq_add_of_le h
  rw [cnt_add]; omega
/-- how often e turns of v from a on go to w -/
def crs (E : Nat → Nat → Nat) (v a e w : Nat) : Nat := cnt (fun i => decide (ptE E v ((a + i) % dg E v) = w)) e
theorem crs_bd {E : Nat → Nat → Nat} {v a e w : Nat} (hd : 0 < dg E v) (hw : w < 6) : E v w * (e / dg E v) ≤ crs E v a e w ∧ crs E v a e w ≤ E v w * (e / dg E v + 1) := by
  let P : Nat → Bool := fun i => decide (ptE E v (i % dg E v) = w)
  have hp : ∀ i, P (i + dg E v) = P i := fun i => by show decide (ptE E v ((i + dg E v) % dg E v) = w) = _; rw [Nat.add_mod_right]
  have hC : cnt P (dg E v) = E v w := by
    have h1 : cnt P (dg E v) = cnt (fun i => decide (sumN (E v) w ≤ i) && decide (i < sumN (E v) (w + 1))) (dg E v) := cnt_eq fun j hj => by
      show decide (ptE E v (j % dg E v) = w) = _
      rw [Nat.mod_eq_of_lt hj]
      have := ptE_iff hj hw
      by_cases hq : ptE E v j = w
      · simp [hq, this.mp hq]
      · have h3 : ¬ (sumN (E v) w ≤ j ∧ j < sumN (E v) (w + 1)) := fun q => hq (this.mpr q)
        simp only [hq, decide_false]
        by_cases h4 : sumN (E v) w ≤ j
        · have h5 : ¬ j < sumN (E v) (w + 1) := fun q => h3 ⟨h4, q⟩
          simp [h5]
        · simp [h4]
    rw [h1, cnt_rng]
    have h2 : sumN (E v) (w + 1) = sumN (E v) w + E v w := rfl
    have h3 : sumN (E v) (w + 1) ≤ dg E v := by
      have key : ∀ a b, sumN (E v) a ≤ sumN (E v) (a + b) := fun a b => by
        induction b with
        | zero => exact Nat.le_refl _
        | succ b ih => exact Nat.le_trans ih (Nat.le_add_right _ _)
      have := key (w + 1) (6 - (w + 1))
      rwa [show w + 1 + (6 - (w + 1)) = 6 by omega] at this
    omega
  have h1 := cnt_wins hp hC a (e / dg E v)
  have h2 := cnt_wins hp hC a (e / dg E v + 1)
  have h3 := cnt_le_len (fun i => P (a + i)) (Nat.mul_div_le e (dg E v))
  have h4 := cnt_le_len (fun i => P (a + i)) (show e ≤ dg E v * (e / dg E v + 1) by have := Nat.lt_mul_div_succ e hd; omega)
  have h5 : crs E v a e w = cnt (fun i => P (a + i)) e := rfl
  omega
/-- all turns go somewhere -/
theorem crs_all {E : Nat → Nat → Nat} (v a : Nat) : ∀ e, sumN (crs E v a e) 6 = e
  | 0 => rfl
  | e + 1 => by
    have h : ∀ w, crs E v a (e + 1) w = crs E v a e w + if w = ptE E v ((a + e) % dg E v) then 1 else 0 := fun w => by
      show cnt _ e + _ = _
      unfold crs
      congr 1
      by_cases hq : w = ptE E v ((a + e) % dg E v)
      · rw [if_pos hq, if_pos (by simp [hq])]
      · rw [if_neg hq, if_neg (by simp; exact fun q => hq q.symm)]
    have h1 : sumN (crs E v a (e + 1)) 6 = sumN (fun w => crs E v a e w + if w = ptE E v ((a + e) % dg E v) then 1 else 0) 6 := sumN_eq fun w _ => h w
    have h2 := sumN_I (fun w => if w = ptE E v ((a + e) % dg E v) then 1 else 0) 6
    have h3 : sI (fun j => (((if j = ptE E v ((a + e) % dg E v) then 1 else 0) : Nat) : Int)) 6 = 1 := by
      have h4 := sI_ite 1 (ptE E v ((a + e) % dg E v)) 6
      rw [if_pos ptE_lt] at h4
      rw [← h4]
      exact sI_congr fun j _ => by split <;> rfl
    rw [h1, sumN_add, crs_all v a e]
    omega
/-- a walk from s with turns a has come to p after e turns of each -/
def Wlk (n : Nat) (E : Nat → Nat → Nat) (z s : Nat) (a e : Nat → Nat) (p : Nat) : Prop := p < n ∧ e z = 0 ∧ (∀ v, n ≤ v → e v = 0) ∧ ∀ v, v < 6 → e v + (if v = p then 1 else 0) = (if v = s then 1 else 0) + sumN (fun u => crs E u (a u) (e u) v) 6
theorem wlk_0 {n : Nat} {E : Nat → Nat → Nat} {z s : Nat} (hs : s < n) (a : Nat → Nat) : Wlk n E z s a (fun _ => 0) s := ⟨hs, rfl, fun _ _ => rfl, fun v _ => by
  show 0 + (if v = s then 1 else 0) = (if v = s then 1 else 0) + sumN (fun u => crs E u (a u) 0 v) 6
  rw [sumN_0 (f := fun u => crs E u (a u) 0 v) fun _ _ => rfl]; omega⟩
theorem crs_s {E : Nat → Nat → Nat} (v a e w : Nat) : crs E v a (e + 1) w = crs E v a e w + if w = ptE E v ((a + e) % dg E v) then 1 else 0 := by
  show cnt _ e + _ = _
  unfold crs
  congr 1
  by_cases hq : w = ptE E v ((a + e) % dg E v)
  · rw [if_pos hq, if_pos (by simp [hq])]
  · rw [if_neg hq, if_neg (by simp; exact fun q => hq q.symm)]
theorem wlk_step {n : Nat} {E : Nat → Nat → Nat} (hG : Gr n E) {z s : Nat} {a e : Nat → Nat} {p : Nat} (h : Wlk n E z s a e p) (hpz : p ≠ z) (hd : 0 < dg E p) : Wlk n E z s a (adv e p 1) (ptE E p ((a p + e p) % dg E p)) := by
  obtain ⟨h1, h2, h3, h4⟩ := h
  have hn := hG.1
  have hw := ptE_edge (E := E) (v := p) (r := (a p + e p) % dg E p) (Nat.mod_lt _ hd)
  refine ⟨?_, ?_, fun v hv => ?_, fun v hv => ?_⟩
  · refine Nat.lt_of_not_le fun q => ?_
    rw [hG.2.1, hG.2.2.2.1 _ p q] at hw
    exact Nat.lt_irrefl _ hw
  · unfold adv; rw [if_neg (Ne.symm hpz)]; exact h2
  · unfold adv; rw [if_neg (by omega)]; exact h3 v hv
  · have h5 := h4 v hv
    have h6 : sumN (fun u => crs E u (a u) (adv e p 1 u) v) 6 = sumN (fun u => crs E u (a u) (e u) v) 6 + if v = ptE E p ((a p + e p) % dg E p) then 1 else 0 := by
      have q1 := sumN_I (fun u => crs E u (a u) (adv e p 1 u) v) 6
      have q2 := sumN_I (fun u => crs E u (a u) (e u) v) 6
      have q3 := sI_upd (f := fun u => ((crs E u (a u) (e u) v : Nat) : Int)) (g := fun u => ((crs E u (a u) (adv e p 1 u) v : Nat) : Int)) p (n := 6) (by omega) (fun j _ hj => by unfold adv; simp only [if_neg hj])
      have q4 : crs E p (a p) (adv e p 1 p) v = crs E p (a p) (e p) v + if v = ptE E p ((a p + e p) % dg E p) then 1 else 0 := by
        rw [← crs_s]; unfold adv; rw [if_pos rfl]
      simp only [q4] at q3
      omega
    rw [h6]
    unfold adv
    by_cases hvp : v = p
    · rw [if_pos hvp, hvp]; rw [hvp, if_pos rfl] at h5; omega
    · rw [if_neg hvp]; rw [if_neg hvp] at h5; omega
/-- over an edge the numbers of whole turns differ by 2 at most -/
theorem wlk_gap {n : Nat} {E : Nat → Nat → Nat} (hG : Gr n E) (hC : Conn n E) (hn2 : 2 ≤ n) {z s : Nat} (hz : z < n) {a e : Nat → Nat} {p : Nat} (h : Wlk n E z s a e p) {x y : Nat} (hx : x < n) (hy : y < n) (hE : 0 < E x y) : e x / dg E x ≤ e y / dg E y + 2 := by
  have hn := hG.1
  obtain ⟨h1, h2, h3, h4⟩ := h
  let q : Nat → Nat := fun v => e v / dg E v
  rcases Nat.lt_or_ge (q x) (q y + 3) with hlt | hge
  · show q x ≤ q y + 2; omega
  · exfalso
    let S : Nat → Bool := fun i => decide (q x ≤ q i)
    have hqz : q z = 0 := by show e z / dg E z = 0; rw [h2]; exact Nat.zero_div _
    -- what goes over the border, both ways
    let o : Nat → Nat → Int := fun v w => (crs E v (a v) (e v) w : Int)
    have hall : ∀ v, v < 6 → sI (o v) 6 = e v := fun v _ => by
      have := crs_all (E := E) v (a v) (e v)
      have := sumN_I (crs E v (a v) (e v)) 6
      show sI (fun w => (crs E v (a v) (e v) w : Int)) 6 = _
      omega
    have hin : ∀ v, v < 6 → (e v : Int) + (if v = p then 1 else 0) = (if v = s then 1 else 0) + sI (fun u => o u v) 6 := fun v hv => by
      have q1 := h4 v hv
      have q2 := sumN_I (fun u => crs E u (a u) (e u) v) 6
      show (e v : Int) + (if v = p then 1 else 0) = (if v = s then 1 else 0) + sI (fun u => ((crs E u (a u) (e u) v : Nat) : Int)) 6
      by_cases c1 : v = p
      · rw [if_pos c1] at q1 ⊢
        by_cases c2 : v = s
        · rw [if_pos c2] at q1 ⊢; omega
        · rw [if_neg c2] at q1 ⊢; omega
      · rw [if_neg c1] at q1 ⊢
        by_cases c2 : v = s
        · rw [if_pos c2] at q1 ⊢; omega
        · rw [if_neg c2] at q1 ⊢; omega
    have hsum : sI (fun v => if S v = true then sI (o v) 6 - sI (fun u => o u v) 6 else 0) 6 ≤ 1 := by
      have q1 : sI (fun v => if S v = true then sI (o v) 6 - sI (fun u => o u v) 6 else 0) 6 ≤ sI (fun v => if v = s then 1 else 0) 6 := sI_le fun v hv => by
        have a1 := hall v hv
        have a2 := hin v hv
        cases hSv : S v
        · rw [if_neg (by decide)]; split <;> omega
        · rw [if_pos rfl, a1]
          by_cases c1 : v = p
          · rw [if_pos c1] at a2
            by_cases c2 : v = s
            · rw [if_pos c2] at a2 ⊢; omega
            · rw [if_neg c2] at a2 ⊢; omega
          · rw [if_neg c1] at a2
            by_cases c2 : v = s
            · rw [if_pos c2] at a2 ⊢; omega
            · rw [if_neg c2] at a2 ⊢; omega
      have q2 := sI_ite 1 s 6
      have q3 : (if s < 6 then (1 : Int) else 0) ≤ 1 := by split <;> omega
      omega
    have hcut : sI (fun v => if S v = true then sI (o v) 6 - sI (fun u => o u v) 6 else 0) 6 = sI (fun v => sI (fun w => if S v = true ∧ S w = false then o v w - o w v else 0) 6) 6 := by
      have e1 : sI (fun v => if S v = true then sI (o v) 6 - sI (fun u => o u v) 6 else 0) 6 = sI (fun v => sI (fun w => if S v = true ∧ S w = false then o v w - o w v else 0) 6) 6 + sI (fun v => sI (fun w => if S v = true ∧ S w = true then o v w - o w v else 0) 6) 6 := by
        rw [← sI_add]
        refine sI_congr fun v _ => ?_
        rw [← sI_add]
        cases hSv : S v
        · rw [if_neg (by decide)]
          exact (sI_0 fun w _ => by simp).symm
        · rw [if_pos rfl, ← sI_sub]
          exact sI_congr fun w _ => by cases hw : S w <;> simp
      have e2 : sI (fun v => sI (fun w => if S v = true ∧ S w = true then o v w - o w v else 0) 6) 6 = - sI (fun v => sI (fun w => if S v = true ∧ S w = true then o v w - o w v else 0) 6) 6 := by
        refine (sI_swap (fun v w => if S v = true ∧ S w = true then o v w - o w v else 0) 6 6).trans ?_
        rw [← sI_neg]
        refine sI_congr fun w _ => ?_
        rw [← sI_neg]
        refine sI_congr fun v _ => ?_
        by_cases hq : S v = true ∧ S w = true
        · rw [if_pos hq, if_pos (And.symm hq)]; omega
        · rw [if_neg hq, if_neg (fun r : S w = true ∧ S v = true => hq (And.symm r))]; rfl
      omega
    have hterm : ∀ v w, v < 6 → w < 6 → S v = true → S w = false → (E v w : Int) * ((q v : Int) - q w - 1) ≤ o v w - o w v := fun v w hv hw hSv hSw => by
      have c1 : q x ≤ q v := by simpa [S] using hSv
      have hdv : 0 < dg E v := by
        rcases Nat.eq_zero_or_pos (dg E v) with r | r
        · have : q v = 0 := by show e v / dg E v = 0; rw [r]; exact Nat.div_zero _
          omega
        · exact r
      have b1 := (crs_bd (E := E) (a := a v) (e := e v) hdv hw).1
      have b2 : crs E w (a w) (e w) v ≤ E w v * (q w + 1) := by
        rcases Nat.eq_zero_or_pos (dg E w) with r | r
        · -- none leaves it
          have hnw : n ≤ w := by
            refine Nat.le_of_not_lt fun hwn => ?_
            have := conn_dg hG hC hn2 hwn
            omega
          rw [h3 w hnw]
          exact Nat.zero_le _
        · exact (crs_bd (E := E) (a := a w) (e := e w) r hv).2
      rw [hG.2.1 w v] at b2
      have b3 : ((E v w * (e v / dg E v) : Nat) : Int) = (E v w : Int) * (q v : Int) := by push_cast; rfl
      have b4 : ((E v w * (q w + 1) : Nat) : Int) = (E v w : Int) * (q w : Int) + (E v w : Int) := by push_cast; rw [Int.mul_add, Int.mul_one]
      have b5 : (E v w : Int) * ((q v : Int) - q w - 1) = (E v w : Int) * (q v : Int) - (E v w : Int) * (q w : Int) - (E v w : Int) := by rw [Int.mul_sub, Int.mul_sub, Int.mul_one]
      show _ ≤ (crs E v (a v) (e v) w : Int) - (crs E w (a w) (e w) v : Int)
      omega
    have hnn : ∀ v, v < 6 → ∀ w, w < 6 → 0 ≤ (if S v = true ∧ S w = false then o v w - o w v else 0) := fun v hv w hw => by
      by_cases hq : S v = true ∧ S w = false
      · rw [if_pos hq]
        have c1 : q x ≤ q v := by simpa [S] using hq.1
        have c2 : q w < q x := by simpa [S] using hq.2
        have := hterm v w hv hw hq.1 hq.2
        have := Int.mul_nonneg (Int.natCast_nonneg (E v w)) (show 0 ≤ (q v : Int) - q w - 1 by omega)
        omega
      · rw [if_neg hq]; exact Int.le_refl _
    have hSx : S x = true := by simp [S]
    have hSy : S y = false := by simp [S]; omega
    have t1 := sI_ge1 (f := fun v => sI (fun w => if S v = true ∧ S w = false then o v w - o w v else 0) 6) x (n := 6) (by omega) fun v hv => sI_nn fun w hw => hnn v hv w hw
    have t2 := sI_ge1 (f := fun w => if S x = true ∧ S w = false then o x w - o w x else 0) y (n := 6) (by omega) fun w hw => hnn x (by omega) w hw
    rw [if_pos ⟨hSx, hSy⟩] at t2
    have t3 := hterm x y (by omega) (by omega) hSx hSy
    have t4 : (1 : Int) * ((q x : Int) - q y - 1) ≤ (E x y : Int) * ((q x : Int) - q y - 1) := Int.mul_le_mul_of_nonneg_right (by omega) (by omega)
    have t5 : sI (fun w => if S x = true ∧ S w = false then o x w - o w x else 0) 6 ≤ sI (fun v => sI (fun w => if S v = true ∧ S w = false then o v w - o w v else 0) 6) 6 := t1
    omega
theorem wlk_bound {n : Nat} {E : Nat → Nat → Nat} (hG : Gr n E) (hC : Conn n E) (hn2 : 2 ≤ n) {z s : Nat} (hz : z < n) {a e : Nat → Nat} {p : Nat} (h : Wlk n E z s a e p) : sumN e 6 ≤ 984 := by
  have hn := hG.1
  have h1 := gap_bound hn hG.2.1 hC hz (k := fun v => e v / dg E v) (T := 2) (by show e z / _ = 0; rw [h.2.1]; exact Nat.zero_div _) fun x y hx hy hE => wlk_gap hG hC hn2 hz h hx hy hE
  have h2 : ∀ v, v < 6 → e v ≤ 164 := fun v hv => by
    rcases Nat.lt_or_ge v n with q | q
    · have a1 : e v / dg E v ≤ 5 * 2 := h1 v q
      have a2 := conn_dg hG hC hn2 q
      have a3 := Nat.lt_mul_div_succ (e v) a2
      have a4 := dg_le hG v
      have a5 : dg E v * (e v / dg E v + 1) ≤ 15 * 11 := Nat.mul_le_mul a4 (by omega)
      omega
    · rw [h.2.2.1 v q]; omega
  have h3 := sumN_le (f := e) (g := fun _ => 164) (n := 6) h2
  have h4 : sumN (fun _ => 164) 6 = 984 := rfl
  omega
