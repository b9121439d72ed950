/-! WALKS: class and law go the same way -/
theorem endL_e {E : Nat → Nat → Nat} {v : Nat} {x : Int} : ∀ w, w ≤ 6 → endL (fjE E) v (iI x) w = iI (x - ((sumN (E v) w : Nat) : Int))
  | 0, _ => by
    show iI x = iI (x - ((0 : Nat) : Int))
    congr 1; omega
  | w + 1, hw => by
    have ih := endL_e (E := E) (v := v) (x := x) w (by omega)
    show endL (fjE E) v (iI x) w - fjE E (v * 6 + w) = iI (x - ((sumN (E v) w + E v w : Nat) : Int))
    rw [ih, fjE_at E (by omega), ← iI_n, iI_sub]
    congr 1; omega
theorem ptE_n {n : Nat} {E : Nat → Nat → Nat} (hG : Gr n E) {v r : Nat} (hr : r < dg E v) : ptE E v r < n := by
  rcases Nat.lt_or_ge (ptE E v r) n with q | q
  · exact q
  · have := ptE_edge hr
    rw [hG.2.1, hG.2.2.2.1 _ _ q] at this
    exact absurd this (Nat.lt_irrefl _)
theorem endN_pt {n : Nat} {E : Nat → Nat → Nat} (hG : Gr n E) {z v r : Nat} (hr : r < dg E v) : endN (fjE E) n z v (nI r) = ptE E v r := by
  have hn := hG.1
  have hlt := ptE_n hG hr
  obtain ⟨h1, h2⟩ := (ptE_iff hr (ptE_lt (E := E) (v := v) (r := r))).mp rfl
  have hd := dg18 hG.2.2.2.2 v
  have hs : ∀ w, w ≤ 6 → sumN (E v) w ≤ 18 := fun w hw => Nat.le_trans (sumN_up (E v) hw) hd
  refine endN_some hlt ?_ fun j hj => ?_
  · rw [← iI_n, endL_e _ (by omega)]
    have := hs (ptE E v r + 1) (by omega)
    exact (iI_lt0 (by omega) (by omega)).mpr (by omega)
  · rw [← iI_n, endL_e _ (by omega)]
    have h3 := hs (j + 1) (by omega)
    have h4 := sumN_up (E v) (show j + 1 ≤ ptE E v r by omega)
    rw [iI_lt0 (by omega) (by omega)]
    omega
theorem trn_e {E : Nat → Nat → Nat} (hE : ∀ i j, E i j ≤ 3) {fp : Nat → Int32} {t : Nat → Nat} {p : Nat} (hp : p < 6) (hd : 0 < dg E p) (h : ∀ j, j < 6 → fp j = nI (t j % dg E j)) : ∀ j, j < 6 → trnI (fdE E) fp p j = nI (adv t p 1 j % dg E j) := fun j hj => by
  unfold trnI adv
  by_cases e : j = p
  · subst e
    rw [upd_s, if_pos rfl, h j hj]
    have h18 := dg18 hE j
    have hlt := Nat.mod_lt (t j) hd
    show (if nI (t j % dg E j) + 1 < nI (dg E j) then nI (t j % dg E j) + 1 else 0) = _
    rw [nI_1]
    have hlt2 : nI (t j % dg E j + 1) < nI (dg E j) ↔ t j % dg E j + 1 < dg E j := nI_ltI (by omega) (by omega)
    have hm : (t j + 1) % dg E j = (t j % dg E j + 1) % dg E j := by rw [Nat.mod_add_mod]
    by_cases q : t j % dg E j + 1 < dg E j
    · rw [if_pos (hlt2.mpr q), hm, Nat.mod_eq_of_lt q]
    · rw [if_neg (fun w => q (hlt2.mp w)), hm, show t j % dg E j + 1 = dg E j by omega, Nat.mod_self]; rfl
  · rw [upd_n _ _ e, if_neg e]
    exact h j hj
theorem walk_go {n : Nat} {E : Nat → Nat → Nat} (hG : Gr n E) (hC : Conn n E) (hn2 : 2 ≤ n) {z s : Nat} (hz : z < n) {a : Nat → Nat} : ∀ r (p : Nat) (e : Nat → Nat) (fp fv : Nat → Int32) (t : Nat → Nat) (vis : Nat → Int32), Wlk n E z s a e p → (∀ j, t j = a j + e j) → (∀ j, j < 6 → fp j = nI (t j % dg E j)) → (∀ j, j < 6 → fv j = vis j) → 984 ≤ r + sumN e 6 →
    ∃ w fp' fv' t' vis', (∀ r1 m, r ≤ r1 → ldL (fjE E) (fdE E) n z r1 m (p, fp, fv) = (m + w, z, fp', fv')) ∧ (∀ r2 m, r ≤ r2 → lkL E z r2 m (p, t, vis) = (m + w, z, t', vis')) ∧ (∀ j, j < 6 → fp' j = nI (t' j % dg E j)) ∧ (∀ j, j < 6 → fv' j = vis' j) ∧ ∀ j, t j ≤ t' j ∧ t' j ≤ a j + 984 := by
  have hn := hG.1
  have fin : ∀ r (p : Nat) (e : Nat → Nat) (fp fv : Nat → Int32) (t : Nat → Nat) (vis : Nat → Int32), Wlk n E z s a e p → (∀ j, t j = a j + e j) → (∀ j, j < 6 → fp j = nI (t j % dg E j)) → (∀ j, j < 6 → fv j = vis j) → p = z →
      ∃ w fp' fv' t' vis', (∀ r1 m, r ≤ r1 → ldL (fjE E) (fdE E) n z r1 m (p, fp, fv) = (m + w, z, fp', fv')) ∧ (∀ r2 m, r ≤ r2 → lkL E z r2 m (p, t, vis) = (m + w, z, t', vis')) ∧ (∀ j, j < 6 → fp' j = nI (t' j % dg E j)) ∧ (∀ j, j < 6 → fv' j = vis' j) ∧ ∀ j, t j ≤ t' j ∧ t' j ≤ a j + 984 := by
    intro r p e fp fv t vis hW ht hfp hfv hpz
    subst hpz
    have hb := wlk_bound hG hC hn2 hz hW
    refine ⟨0, fp, fv, t, vis, fun r1 m _ => ?_, fun r2 m _ => ?_, hfp, hfv, fun j => ⟨Nat.le_refl _, ?_⟩⟩
    · cases r1 with
      | zero => rfl
      | succ q => exact if_pos rfl
    · cases r2 with
      | zero => rfl
      | succ q => exact if_pos rfl
    · rw [ht j]
      rcases Nat.lt_or_ge j 6 with q | q
      · have := sumN_ge1 (f := e) j q; omega
      · have := hW.2.2.1 j (by omega); omega
  intro r
  induction r with
  | zero =>
    intro p e fp fv t vis hW ht hfp hfv hr
    refine fin 0 p e fp fv t vis hW ht hfp hfv (Classical.byContradiction fun hpz => ?_)
    have hd := conn_dg hG hC hn2 hW.1
    have h2 := wlk_bound hG hC hn2 hz (wlk_step hG hW hpz hd)
    rw [sumN_adv1 _ _ _ _ (show p < 6 by have := hW.1; omega)] at h2
    omega
  | succ r ih =>
    intro p e fp fv t vis hW ht hfp hfv hr
    by_cases hpz : p = z
    · exact fin (r + 1) p e fp fv t vis hW ht hfp hfv hpz
    · have hp := hW.1
      have hd := conn_dg hG hC hn2 hp
      have hW2 := wlk_step hG hW hpz hd
      rw [← ht p] at hW2
      have hlt := Nat.mod_lt (t p) hd
      have hend : endN (fjE E) n z p (fp p) = ptE E p (t p % dg E p) := by
        rw [hfp p (by omega)]; exact endN_pt hG hlt
      have hptn := ptE_n hG hlt
      obtain ⟨w, fp', fv', t', vis', b1, b2, b3, b4, b5⟩ := ih (ptE E p (t p % dg E p)) (adv e p 1) (trnI (fdE E) fp p) (upd fv (ptE E p (t p % dg E p)) (fv (ptE E p (t p % dg E p)) + 1)) (adv t p 1) (upd vis (ptE E p (t p % dg E p)) (vis (ptE E p (t p % dg E p)) + 1)) hW2 (fun j => by
        unfold adv
        by_cases q : j = p
        · subst q; rw [if_pos rfl, if_pos rfl, ht j]; omega
        · rw [if_neg q, if_neg q, ht j]) (trn_e hG.2.2.2.2 (by omega) hd hfp) (fun j hj => by
        unfold upd
        by_cases q : j = ptE E p (t p % dg E p)
        · rw [if_pos q, if_pos q, hfv _ (by omega)]
        · rw [if_neg q, if_neg q, hfv j hj]) (by rw [sumN_adv1 _ _ _ _ (show p < 6 by omega)]; omega)
      refine ⟨w + 1, fp', fv', t', vis', fun r1 m hr1 => ?_, fun r2 m hr2 => ?_, b3, b4, fun j => ⟨?_, (b5 j).2⟩⟩
      · obtain ⟨q, rfl⟩ : ∃ q, r1 = q + 1 := ⟨r1 - 1, by omega⟩
        have e1 : ldL (fjE E) (fdE E) n z (q + 1) m (p, fp, fv) = ldL (fjE E) (fdE E) n z q (m + 1) (endN (fjE E) n z p (fp p), trnI (fdE E) fp p, upd fv (endN (fjE E) n z p (fp p)) (fv (endN (fjE E) n z p (fp p)) + 1)) := if_neg hpz
        rw [e1, hend, b1 q (m + 1) (by omega)]
        rw [show m + 1 + w = m + (w + 1) by omega]
      · obtain ⟨q, rfl⟩ : ∃ q, r2 = q + 1 := ⟨r2 - 1, by omega⟩
        have e1 : lkL E z (q + 1) m (p, t, vis) = lkL E z q (m + 1) (lkT E (p, t, vis)) := if_neg hpz
        rw [e1]
        show lkL E z q (m + 1) (ptE E p (t p % dg E p), adv t p 1, upd vis (ptE E p (t p % dg E p)) (vis (ptE E p (t p % dg E p)) + 1)) = _
        rw [b2 q (m + 1) (by omega)]
        rw [show m + 1 + w = m + (w + 1) by omega]
      · have h9 := (b5 j).1
        have h10 : t j ≤ adv t p 1 j := by
          unfold adv
          by_cases q : j = p
          · subst q; rw [if_pos rfl]; omega
          · rw [if_neg q]; exact Nat.le_refl _
        omega
/-- a walk from v, as the class and the law begin it -/
theorem walk_law {n : Nat} {E : Nat → Nat → Nat} (hG : Gr n E) (hC : Conn n E) (hn2 : 2 ≤ n) {z v : Nat} (hz : z < n) (hv : v < n) {fp vis : Nat → Int32} {t : Nat → Nat} (hfp : ∀ j, j < 6 → fp j = nI (t j % dg E j)) {F : Nat} (hF : 984 ≤ F) :
    (ldL (fjE E) (fdE E) n z mR 0 (v, fp, upd vis v (vis v + 1))).1 = (lkL E z F 0 (v, t, upd vis v (vis v + 1))).1 ∧ (lkL E z F 0 (v, t, upd vis v (vis v + 1))).2.1 = z ∧
    (∀ j, j < 6 → (ldL (fjE E) (fdE E) n z mR 0 (v, fp, upd vis v (vis v + 1))).2.2.1 j = nI ((lkL E z F 0 (v, t, upd vis v (vis v + 1))).2.2.1 j % dg E j)) ∧
    (∀ j, j < 6 → (ldL (fjE E) (fdE E) n z mR 0 (v, fp, upd vis v (vis v + 1))).2.2.2 j = (lkL E z F 0 (v, t, upd vis v (vis v + 1))).2.2.2 j) ∧
    ∀ j, t j ≤ (lkL E z F 0 (v, t, upd vis v (vis v + 1))).2.2.1 j ∧ (lkL E z F 0 (v, t, upd vis v (vis v + 1))).2.2.1 j ≤ t j + 984 := by
  have hm : mR = 1000000 := rfl
  obtain ⟨w, fp', fv', t', vis', b1, b2, b3, b4, b5⟩ := walk_go hG hC hn2 hz (s := v) (a := t) 984 v (fun _ => 0) fp (upd vis v (vis v + 1)) t (upd vis v (vis v + 1)) (wlk_0 hv t) (fun j => rfl) hfp (fun j _ => rfl) (by omega)
  rw [b1 mR 0 (by omega), b2 F 0 hF]
  exact ⟨rfl, rfl, b3, b4, b5⟩
