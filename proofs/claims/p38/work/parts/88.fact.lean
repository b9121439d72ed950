/-! FACTORS of the group, and the order of a pile in it -/
def InjM (m : Nat) (A : Nat → Nat → Int) : Prop := ∀ x : Nat → Int, (∀ i, i < m → sI (fun j => A i j * x j) m = 0) → ∀ j, j < m → x j = 0
theorem InjM_clo (m : Nat) : Clo m (InjM m) := by
  refine ⟨fun A a b t hab ha hb h x hx => ?_, fun A a b t hab ha hb h x hx => ?_, fun A B hAB h x hx => ?_⟩
  · refine h x fun i hi => ?_
    have h1 := hx i hi
    by_cases hia : i = a
    · subst hia
      have h2 := hx b hb
      have e2 : sI (fun j => radd A i b t b j * x j) m = sI (fun j => A b j * x j) m := sI_congr fun j _ => by
        unfold radd; rw [if_neg (fun q => hab q.symm)]
      have e1 : sI (fun j => radd A i b t i j * x j) m = sI (fun j => A i j * x j) m + t * sI (fun j => A b j * x j) m := by
        rw [← sI_mul, ← sI_add]
        refine sI_congr fun j _ => ?_
        unfold radd
        rw [if_pos rfl, Int.add_mul, Int.mul_assoc]
      rw [e2] at h2
      rw [e1, h2, Int.mul_zero, Int.add_zero] at h1
      exact h1
    · rw [← h1]
      refine sI_congr fun j _ => ?_
      unfold radd; rw [if_neg hia]
  · have hk : ∀ j, j < m → (fun j => if j = b then x b + t * x a else x j) j = 0 := by
      refine h _ fun i hi => ?_
      rw [← hx i hi]
      have e1 : sI (fun j => cadd A a b t i j * x j) m = sI (fun j => A i j * x j) m + sI (fun j => if j = a then t * A i b * x a else 0) m := by
        rw [← sI_add]
        refine sI_congr fun j _ => ?_
        unfold cadd
        by_cases q : j = a
        · rw [if_pos q, if_pos q, q, Int.add_mul]
        · rw [if_neg q, if_neg q, Int.add_zero]
      have e2 : sI (fun j => A i j * (fun j => if j = b then x b + t * x a else x j) j) m = sI (fun j => A i j * x j) m + sI (fun j => if j = b then A i b * (t * x a) else 0) m := by
        rw [← sI_add]
        refine sI_congr fun j _ => ?_
        show A i j * (if j = b then x b + t * x a else x j) = _
        by_cases q : j = b
        · rw [if_pos q, if_pos q, q, Int.mul_add]
        · rw [if_neg q, if_neg q, Int.add_zero]
      rw [e1, e2, sI_ite, sI_ite, if_pos ha, if_pos hb]
      congr 1
      rw [Int.mul_comm t (A i b), Int.mul_assoc]
    intro j hj
    have h1 := hk j hj
    have h2 := hk a ha
    have h3 : (if a = b then x b + t * x a else x a) = 0 := h2
    rw [if_neg hab] at h3
    have h4 : (if j = b then x b + t * x a else x j) = 0 := h1
    by_cases q : j = b
    · rw [if_pos q, h3, Int.mul_zero, Int.add_zero] at h4
      rw [q]; exact h4
    · rw [if_neg q] at h4; exact h4
  · refine h x fun i hi => ?_
    rw [← hx i hi]
    exact sI_congr fun j hj => by rw [hAB i j hi hj]
theorem InjM_diag {m : Nat} {d : Nat → Int} (h : InjM m (diag d)) {i : Nat} (hi : i < m) : d i ≠ 0 := fun q => by
  have := h (fun j => if j = i then 1 else 0) (fun r _ => sI_0 fun j _ => by
    show diag d r j * (if j = i then 1 else 0) = 0
    by_cases e : j = i
    · rw [if_pos e, Int.mul_one]
      unfold diag
      by_cases e2 : r = j
      · rw [if_pos e2, e2, e, q]
      · rw [if_neg e2]
    · rw [if_neg e, Int.mul_zero]) i hi
  have h2 : (if i = i then (1 : Int) else 0) = 0 := this
  rw [if_pos rfl] at h2
  exact absurd h2 (by decide)
/-- nothing but nothing is sent to nothing -/
theorem LM_inj {m : Nat} {E : Nat → Nat → Nat} (hG : Gr (m + 1) E) (hC : Conn (m + 1) E) (hm : 1 ≤ m) {z : Nat} (hz : z < m + 1) : InjM m (LM E z) := by
  intro x hx
  have hn := hG.1
  let f : Nat → Int := fun v => if v = z ∨ m + 1 ≤ v then 0 else if v < z then x v else x (v - 1)
  have fz : f z = 0 := if_pos (Or.inl rfl)
  have fo : ∀ v, m + 1 ≤ v → f v = 0 := fun v hv => if_pos (Or.inr hv)
  have fs : ∀ i, i < m → f (skp z i) = x i := fun i hi => by
    show (if skp z i = z ∨ m + 1 ≤ skp z i then 0 else if skp z i < z then x (skp z i) else x (skp z i - 1)) = x i
    have h1 := skp_lt (j := z) hi
    rw [if_neg (fun q => q.elim (fun q => skp_ne z i q) (fun q => by omega))]
    unfold skp
    by_cases q : i < z
    · rw [if_pos q, if_pos q]
    · rw [if_neg q, if_neg (by omega), Nat.add_sub_cancel]
  have hL : ∀ v, v < m + 1 → v ≠ z → Lap E f v = 0 := fun v hv hvz => by
    obtain ⟨i, hi, rfl⟩ : ∃ i, i < m ∧ v = skp z i := by
      by_cases h : v < z
      · exact ⟨v, by omega, by unfold skp; rw [if_pos h]⟩
      · exact ⟨v - 1, by omega, by unfold skp; rw [if_neg (show ¬ v - 1 < z by omega)]; omega⟩
    have h1 : sI (fun w => (E (skp z i) w : Int) * f w) 6 = sI (fun j => (E (skp z i) (skp z j) : Int) * x j) m := by
      rw [sI_cut6 hn (fun w hw => by rw [fo w hw, Int.mul_zero]), sI_skp hz, fz, Int.mul_zero, Int.add_zero]
      exact sI_congr fun j hj => by rw [fs j hj]
    have h2 : sI (fun j => LM E z i j * x j) m = (dg E (skp z i) : Int) * x i - sI (fun j => (E (skp z i) (skp z j) : Int) * x j) m := by
      have h3 : (dg E (skp z i) : Int) * x i = sI (fun j => if j = i then (dg E (skp z i) : Int) * x i else 0) m := by rw [sI_ite, if_pos hi]
      rw [h3, ← sI_sub]
      refine sI_congr fun j _ => ?_
      unfold LM
      by_cases q : i = j
      · subst q
        rw [if_pos rfl, if_pos rfl, hG.2.2.1]
        show _ = _ - ((0 : Nat) : Int) * _
        rw [show ((0 : Nat) : Int) = 0 from rfl, Int.zero_mul, Int.sub_zero]
      · rw [if_neg q, if_neg (fun w => q w.symm), Int.neg_mul, Int.zero_sub]
    rw [Lap_eq, h1, fs i hi, ← h2, hx i hi]
  obtain ⟨g, hS, hN, _⟩ := rep_exists hG hC (by omega) hz (fun _ => 0)
  have u1 := rep_half hG hC (by omega) hz hS hN fz (fun v hv hvz => by rw [hL v hv hvz, Int.sub_self])
  have u2 := rep_half hG hC (by omega) hz hS hN (f := fun j => - f j) (by show - f z = 0; rw [fz]; rfl) (fun v hv hvz => by rw [Lap_neg, hL v hv hvz, Int.sub_self]; rfl)
  intro j hj
  have h1 := skp_lt (j := z) hj
  have a1 := u1 (skp z j) h1
  have a2 := u2 (skp z j) h1
  have a3 : - f (skp z j) ≤ 0 := a2
  rw [fs j hj] at a1 a3
  omega
/-- the numbers behind the factors -/
def Fac (m : Nat) (A : Nat → Nat → Int) (d : Nat → Int) : Prop := (∀ i, i + 1 < m → d i ∣ d (i + 1)) ∧ (∀ i, i < m → d i ≠ 0) ∧ ∀ (k : Nat) (x : Int), k ≤ m → (Dv m k A x ↔ x ∣ prodI d k)
theorem Fac.chain {m : Nat} {A : Nat → Nat → Int} {d : Nat → Int} (h : Fac m A d) : ∀ i, i + 1 < m → d i ∣ d (i + 1) := h.1
theorem Fac.nz {m : Nat} {A : Nat → Nat → Int} {d : Nat → Int} (h : Fac m A d) : ∀ i, i < m → d i ≠ 0 := h.2.1
theorem Fac.dv {m : Nat} {A : Nat → Nat → Int} {d : Nat → Int} (h : Fac m A d) : ∀ (k : Nat) (x : Int), k ≤ m → (Dv m k A x ↔ x ∣ prodI d k) := h.2.2
theorem fac_of {m : Nat} {A : Nat → Nat → Int} (h : InjM m A) : ∃ d, Fac m A d := by
  obtain ⟨d, h1, _, h3⟩ := smith m A
  refine ⟨d, h1, fun i hi => InjM_diag (h3 _ (InjM_clo m) h) hi, fun k x hk => ⟨fun q => ?_, fun q => ?_⟩⟩
  · have h4 := h3 _ (Dv_clo m k x) q
    have h5 := h4 id id (fun r hr => Nat.lt_of_lt_of_le hr hk) (fun r hr => Nat.lt_of_lt_of_le hr hk)
    have h6 : x ∣ det k (diag d) := h5
    rw [det_diag] at h6
    exact h6
  · refine h3 _ (Dv_clo2 m k x A) (fun q => q) fun f g hf hg => Int.dvd_trans q (minor_dvd h1 k f g hf hg)
theorem inc_id {m : Nat} {f : Nat → Nat} (h1 : ∀ r, r < m → f r < m) (h2 : ∀ r, r + 1 < m → f r < f (r + 1)) : ∀ r, r < m → f r = r := by
  have up : ∀ r, r < m → r ≤ f r := fun r => by
    induction r with
    | zero => intro _; exact Nat.zero_le _
    | succ r ih => intro hr; have := h2 r hr; have := ih (by omega); omega
  have dn : ∀ d r, r + d + 1 = m → f r ≤ r := fun d => by
    induction d with
    | zero => intro r hr; have := h1 r (by omega); omega
    | succ d ih => intro r hr; have := ih (r + 1) (by omega); have := h2 r (by omega); omega
  intro r hr
  have := up r hr
  have := dn (m - 1 - r) r (by omega)
  omega
theorem Dv_top {m : Nat} {A : Nat → Nat → Int} {x : Int} : Dv m m A x ↔ x ∣ det m A := by
  constructor
  · intro h
    exact h id id (fun r hr => hr) (fun r hr => hr)
  · intro h
    refine Dv_rise fun f g hf hg hfr hgr => ?_
    rw [det_congr (B := A) fun i j hi hj => by rw [inc_id hf hfr i hi, inc_id hg hgr j hj]]
    exact h
theorem dvd_both {a b : Int} (h1 : a ∣ b) (h2 : b ∣ a) : a.natAbs = b.natAbs := Nat.dvd_antisymm (Int.natAbs_dvd_natAbs.mpr h1) (Int.natAbs_dvd_natAbs.mpr h2)
theorem Fac.top {m : Nat} {A : Nat → Nat → Int} {d : Nat → Int} (h : Fac m A d) : (det m A).natAbs = (prodI d m).natAbs :=
  dvd_both ((h.dv m _ (Nat.le_refl m)).mp (Dv_top.mpr (Int.dvd_refl _))) (Dv_top.mp ((h.dv m _ (Nat.le_refl m)).mpr (Int.dvd_refl _)))
/-- the absolute numbers and their products -/
def absD (d : Nat → Int) (i : Nat) : Nat := (d i).natAbs
def prdD (d : Nat → Int) (k : Nat) : Nat := (prodI d k).natAbs
theorem prdD_0 (d : Nat → Int) : prdD d 0 = 1 := rfl
theorem prdD_s (d : Nat → Int) (k : Nat) : prdD d (k + 1) = prdD d k * absD d k := by
  unfold prdD absD
  rw [← Int.natAbs_mul]
  rfl
theorem Fac.pos {m : Nat} {A : Nat → Nat → Int} {d : Nat → Int} (h : Fac m A d) : ∀ k, k ≤ m → 0 < prdD d k
  | 0, _ => by rw [prdD_0]; omega
  | k + 1, hk => by
    rw [prdD_s]
    have h1 := h.nz k (by omega)
    have h2 : 0 < absD d k := by unfold absD; omega
    exact Nat.mul_pos (h.pos k (by omega)) h2
theorem prdD_up (d : Nat → Int) (k : Nat) : ∀ j, prdD d k ∣ prdD d (k + j)
  | 0 => Nat.dvd_refl _
  | j + 1 => Nat.dvd_trans (prdD_up d k j) (by rw [show k + (j + 1) = (k + j) + 1 by omega, prdD_s]; exact Nat.dvd_mul_right _ _)
theorem LM_small : (List.range 6).all (fun m => decide (fct m * prodI (fun _ => 15) m ≤ 100000000)) = true := by decide +kernel
theorem LM_det_bd {m : Nat} {E : Nat → Nat → Nat} (hG : Gr (m + 1) E) (z : Nat) : (det m (LM E z)).natAbs ≤ 100000000 := by
  have hn := hG.1
  have h := of_decide_eq_true (List.all_eq_true.mp LM_small m (List.mem_range.mpr (by omega)))
  have hb := det_bound (m := m) (A := LM E z) (b := fun _ => 15) (fun _ => by decide) fun i j _ _ => LM_bd hG z i j
  omega
theorem dv_pD {m : Nat} {E : Nat → Nat → Nat} (hG : Gr (m + 1) E) {z : Nat} {d : Nat → Int} (h : Fac m (LM E z) d) {k : Nat} (hk : k ≤ m) (hk1 : 1 ≤ k) : dvV (fjE E) (fdE E) (m + 1) z k = lI (prdD d k : Int) := by
  obtain ⟨e, h1, _, h3⟩ := dvV_go hG (z := z) hk hk1
  rw [h1]
  have h4 : ∀ x : Int, x ∣ (e : Int) ↔ x ∣ prodI d k := fun x => (h3 x).symm.trans (h.dv k x hk)
  have h5 := dvd_both ((h4 e).mp (Int.dvd_refl _)) ((h4 _).mpr (Int.dvd_refl _))
  rw [Int.natAbs_natCast] at h5
  rw [h5]; rfl
theorem rt32 {x : Int} (h1 : -2 ^ 31 ≤ x) (h2 : x < 2 ^ 31) : (lI x).toInt32.toInt64 = lI x := by
  apply Int64.toInt_inj.mp
  rw [Int32.toInt_toInt64, Int64.toInt_toInt32, lI_toInt (by omega) (by omega)]
  exact Int.bmod_eq_of_le (by omega) (by omega)
/-- where the factors greater than 1 begin -/
theorem ones_first {m : Nat} {d : Nat → Int} (h1 : ∀ i, i + 1 < m → d i ∣ d (i + 1)) (h2 : ∀ i, i < m → d i ≠ 0) : ∃ t, t ≤ m ∧ ∀ i, i < m → (1 < absD d i ↔ t ≤ i) := by
  have mono : ∀ i, i + 1 < m → absD d i ≤ absD d (i + 1) := fun i hi => by
    have h3 := h2 (i + 1) hi
    exact Nat.le_of_dvd (by unfold absD; omega) (Int.natAbs_dvd_natAbs.mpr (h1 i hi))
  have key : ∀ j, j ≤ m → ∃ t, t ≤ j ∧ ∀ i, i < j → (1 < absD d i ↔ t ≤ i) := by
    intro j
    induction j with
    | zero => intro _; exact ⟨0, Nat.le_refl _, fun i hi => absurd hi (Nat.not_lt_zero _)⟩
    | succ j ih =>
      intro hj
      obtain ⟨t, t1, t2⟩ := ih (by omega)
      by_cases hq : t < j
      · refine ⟨t, by omega, fun i hi => ?_⟩
        by_cases e : i = j
        · subst e
          have a1 := (t2 (i - 1) (by omega)).mpr (by omega)
          have a2 := mono (i - 1) (by omega)
          rw [show i - 1 + 1 = i by omega] at a2
          exact ⟨fun _ => by omega, fun _ => by omega⟩
        · exact t2 i (by omega)
      · by_cases hb : 1 < absD d j
        · refine ⟨t, by omega, fun i hi => ?_⟩
          by_cases e : i = j
          · subst e; exact ⟨fun _ => by omega, fun _ => hb⟩
          · exact t2 i (by omega)
        · refine ⟨j + 1, Nat.le_refl _, fun i hi => ?_⟩
          by_cases e : i = j
          · subst e; exact ⟨fun q => absurd q hb, fun q => by omega⟩
          · have := t2 i (by omega)
            exact ⟨fun q => by have := this.mp q; omega, fun q => by omega⟩
  exact key m (Nat.le_refl m)
theorem lI_1lt {a : Nat} (h : a < 2 ^ 62) : (1 : Int64) < lI (a : Int) ↔ 1 < a := by
  rw [← lI_1, Int64.lt_iff_toInt_lt, lI_toInt (by omega) (by omega), lI_toInt (by omega) (by omega)]
  omega
/-- the loop over the sizes -/
theorem ffS_go {m : Nat} {E : Nat → Nat → Nat} (hG : Gr (m + 1) E) {z : Nat} {d : Nat → Int} (h : Fac m (LM E z) d) {t : Nat} (ht : ∀ i, i < m → (1 < absD d i ↔ t ≤ i)) (q : Nat → Int32) (hb : prdD d m ≤ 100000000) : ∀ s, s ≤ m → (ffS (fjE E) (fdE E) (m + 1) z q s).1 = lI (prdD d s : Int) ∧ (ffS (fjE E) (fdE E) (m + 1) z q s).2.1 = s - t ∧ ∀ a, a < s - t → ((ffS (fjE E) (fdE E) (m + 1) z q s).2.2 a).toInt64 = lI (absD d (t + a) : Int)
  | 0, _ => ⟨by rw [prdD_0]; exact lI_1.symm, by rw [Nat.zero_sub]; rfl, fun a ha => by omega⟩
  | s + 1, hs => by
    obtain ⟨h1, h2, h3⟩ := ffS_go hG h ht q hb s (by omega)
    have hle : ∀ k, k ≤ m → prdD d k ≤ 100000000 := fun k hk => Nat.le_trans (Nat.le_of_dvd (h.pos m (Nat.le_refl m)) (by have := prdD_up d k (m - k); rw [show k + (m - k) = m by omega] at this; exact this)) hb
    have p0 := h.pos s (by omega)
    have b0 := hle s (by omega)
    have b1 := hle (s + 1) hs
    have hda : absD d s ≤ 100000000 := Nat.le_trans (Nat.le_of_dvd (h.pos (s + 1) hs) (by rw [prdD_s]; exact Nat.dvd_mul_left _ _)) b1
    have hun : ffS (fjE E) (fdE E) (m + 1) z q (s + 1) = if ¬ (ffS (fjE E) (fdE E) (m + 1) z q s).1 = 0 ∧ 1 < dvV (fjE E) (fdE E) (m + 1) z (s + 1) / (ffS (fjE E) (fdE E) (m + 1) z q s).1 then (dvV (fjE E) (fdE E) (m + 1) z (s + 1), (ffS (fjE E) (fdE E) (m + 1) z q s).2.1 + 1, upd (ffS (fjE E) (fdE E) (m + 1) z q s).2.2 (ffS (fjE E) (fdE E) (m + 1) z q s).2.1 (dvV (fjE E) (fdE E) (m + 1) z (s + 1) / (ffS (fjE E) (fdE E) (m + 1) z q s).1).toInt32) else (dvV (fjE E) (fdE E) (m + 1) z (s + 1), (ffS (fjE E) (fdE E) (m + 1) z q s).2.1, (ffS (fjE E) (fdE E) (m + 1) z q s).2.2) := rfl
    have hq : dvV (fjE E) (fdE E) (m + 1) z (s + 1) / (ffS (fjE E) (fdE E) (m + 1) z q s).1 = lI (absD d s : Int) := by
      rw [dv_pD hG h hs (by omega), h1, lI_divN (by omega) (by omega), prdD_s, Nat.mul_div_cancel_left _ p0]
    have hnz : ¬ (ffS (fjE E) (fdE E) (m + 1) z q s).1 = 0 := by
      rw [h1]
      intro w
      have := (lI_z (by omega) (by omega)).mp w
      omega
    rw [hun, hq, dv_pD hG h hs (by omega), h2]
    have hiff := ht s (by omega)
    by_cases hc : 1 < absD d s
    · have hts := hiff.mp hc
      rw [if_pos ⟨hnz, (lI_1lt (by omega)).mpr hc⟩]
      refine ⟨rfl, by show s - t + 1 = s + 1 - t; omega, fun a ha => ?_⟩
      show (upd (ffS (fjE E) (fdE E) (m + 1) z q s).2.2 (s - t) (lI (absD d s : Int)).toInt32 a).toInt64 = _
      by_cases e : a = s - t
      · rw [e, upd_s, rt32 (by omega) (by omega), show t + (s - t) = s by omega]
      · rw [upd_n _ _ e]
        exact h3 a (by omega)
    · have hts : ¬ t ≤ s := fun w => hc (hiff.mpr w)
      rw [if_neg (fun w => hc ((lI_1lt (by omega)).mp w.2))]
      exact ⟨rfl, by show s - t = s + 1 - t; omega, fun a ha => by omega⟩
/-- what the law multiplies and divides -/
theorem prL_go {d : Nat → Int} {t : Nat} {FK : Nat → Int64} (h1 : prdD d t = 1) (hF : ∀ a, FK a = lI (absD d (t + a) : Int)) : ∀ a, prL FK a = lI (prdD d (t + a) : Int)
  | 0 => by
    show (1 : Int64) = _
    rw [Nat.add_zero, h1]; exact lI_1.symm
  | a + 1 => by
    show prL FK a * FK a = _
    rw [prL_go h1 hF a, hF a, lI_mul, ← Int.natCast_mul, show t + (a + 1) = (t + a) + 1 by omega, prdD_s]
theorem prdD_ones {d : Nat → Int} {m t : Nat} (hnz : ∀ i, i < m → d i ≠ 0) (ht : ∀ i, i < m → (1 < absD d i ↔ t ≤ i)) (htm : t ≤ m) : ∀ k, k ≤ t → prdD d k = 1
  | 0, _ => rfl
  | k + 1, hk => by
    have h1 := hnz k (by omega)
    have h2 := ht k (by omega)
    have h3 : absD d k = 1 := by
      have : 0 < absD d k := by unfold absD; omega
      rcases Nat.lt_or_ge 1 (absD d k) with q | q
      · have := h2.mp q; omega
      · omega
    rw [prdD_s, prdD_ones hnz ht htm k (by omega), h3]
/-- the determinants with a column of chips -/
def dwZ (E : Nat → Nat → Nat) (z : Nat) (c : Nat → Nat) (pl i j : Nat) : Int := if j = pl then (c (skp z i) : Int) else LM E z i j
theorem dwV_go {m : Nat} {E : Nat → Nat → Nat} (hG : Gr (m + 1) E) {z pl : Nat} {c : Nat → Nat} (hc : ∀ v, c v ≤ 2000) (hpl : pl < m) : dwV (fjE E) (fdE E) (m + 1) z (nF c) pl = lI (det m (dwZ E z c pl)) ∧ -2 ^ 40 ≤ det m (dwZ E z c pl) ∧ det m (dwZ E z c pl) ≤ 2 ^ 40 := by
  have hn := hG.1
  have hb : ∀ i j, i < m → j < m → -(bq pl j) ≤ dwZ E z c pl i j ∧ dwZ E z c pl i j ≤ bq pl j := fun i j _ _ => by
    have h1 := LM_bd hG z i j
    have h2 := hc (skp z i)
    unfold dwZ bq
    split <;> omega
  refine ⟨?_, det_bd (pl := pl) (s := m) (by omega) (by omega) (Nat.le_refl _) hb⟩
  unfold dwV
  rw [Nat.add_sub_cancel]
  refine dtV_go (pl := pl) (by omega) (by omega) hb fun i j hi hj => ?_
  rw [dwR_at (by omega) m (Nat.le_refl _) i j hi hj]
  unfold dwI dwZ
  by_cases e : j = pl
  · rw [if_pos e, if_pos e]
    show (nI (c (skp z i))).toInt64 = _
    have := hc (skp z i)
    rw [← iI_n]
    exact iI_64 (by omega) (by omega)
  · rw [if_neg e, if_neg e]
    exact ent_L hG (by have := skp_lt (j := z) hj; omega)
theorem dw_dvd {m : Nat} {E : Nat → Nat → Nat} {z pl : Nat} {c : Nat → Nat} {x : Int} (hpl : pl < m + 1) (h : Dv (m + 1) m (LM E z) x) : x ∣ det (m + 1) (dwZ E z c pl) := by
  rw [← det_mvf (dwZ E z c pl) pl hpl, det_first_col]
  have hmv : ∀ i, i < m + 1 → mvf pl i < m + 1 := fun i hi => by unfold mvf; split <;> (try split) <;> omega
  refine dvd_sI fun i hi => Int.dvd_trans ?_ (Int.dvd_mul_left _ _)
  refine Int.dvd_trans ?_ (Int.dvd_mul_left _ _)
  have he : det m (fun r k => dwZ E z c pl (mvf pl (skp i r)) (mvf pl (k + 1))) = det m (fun r k => LM E z ((fun r => mvf pl (skp i r)) r) ((fun k => mvf pl (k + 1)) k)) := det_congr fun r k _ _ => by
    unfold dwZ
    rw [if_neg]
    unfold mvf
    split <;> (try split) <;> omega
  rw [he]
  exact h (fun r => mvf pl (skp i r)) (fun k => mvf pl (k + 1)) (fun r hr => hmv _ (skp_lt hr)) (fun k hk => hmv _ (by omega))
/-- the greatest common divisor of them all -/
theorem odC_go {m : Nat} {E : Nat → Nat → Nat} (hG : Gr (m + 1) E) {z : Nat} {c : Nat → Nat} (hc : ∀ v, c v ≤ 2000) {T : Nat} (hT : T ≤ 2 ^ 40) (hT0 : 0 < T) : ∀ i, i ≤ m → ∃ e : Nat, odC (fjE E) (fdE E) (m + 1) z (nF c) (lI (T : Int)) i = lI (e : Int) ∧ e ≤ 2 ^ 40 ∧ 0 < e ∧ ∀ x : Int, x ∣ (e : Int) ↔ (x ∣ (T : Int) ∧ ∀ pl, pl < i → x ∣ det m (dwZ E z c pl))
  | 0, _ => ⟨T, rfl, hT, hT0, fun x => ⟨fun q => ⟨q, fun pl hpl => absurd hpl (Nat.not_lt_zero _)⟩, fun q => q.1⟩⟩
  | i + 1, hi => by
    obtain ⟨e, h1, h2, h3, h4⟩ := odC_go hG (z := z) hc hT hT0 i (by omega)
    obtain ⟨w1, w2, w3⟩ := dwV_go hG (z := z) hc (show i < m by omega)
    have hun : odC (fjE E) (fdE E) (m + 1) z (nF c) (lI (T : Int)) (i + 1) = cdV (odC (fjE E) (fdE E) (m + 1) z (nF c) (lI (T : Int)) i) (dwV (fjE E) (fdE E) (m + 1) z (nF c) i) := rfl
    rw [hun, h1, w1, cdV_go (by omega) (by omega) (by omega) (by omega), Int.natAbs_natCast]
    refine ⟨_, rfl, gcd_le40 h2 (by omega), Nat.gcd_pos_of_pos_left _ h3, fun x => ?_⟩
    rw [dvd_gcdI, h4 x]
    constructor
    · rintro ⟨⟨a1, a2⟩, a3⟩
      refine ⟨a1, fun pl hpl => ?_⟩
      by_cases e : pl = i
      · rw [e]; exact a3
      · exact a2 pl (by omega)
    · rintro ⟨a1, a2⟩
      exact ⟨⟨a1, fun pl hpl => a2 pl (by omega)⟩, a2 i (by omega)⟩
/-- all that the law asks of factors and order -/
theorem fact_law {m : Nat} {E : Nat → Nat → Nat} (hG : Gr (m + 1) E) (hC : Conn (m + 1) E) (hm : 1 ≤ m) {z : Nat} (hz : z < m + 1) {c : Nat → Nat} (hc : ∀ v, c v ≤ 2000) (hdet : 0 ≤ det m (LM E z)) :
    0 < det m (LM E z) ∧ ∃ (NF : Nat) (FK : Nat → Int64), (∀ q, (ffS (fjE E) (fdE E) (m + 1) z q m).2.1 = NF) ∧ NF ≤ 6 ∧ (∀ q a, a < NF → ((ffS (fjE E) (fdE E) (m + 1) z q m).2.2 a).toInt64 = FK a) ∧ (∀ a, a < NF → ¬ FK a < 2) ∧ (∀ a, a < NF → ¬ bfL FK a = 0) ∧ (∀ a, a < NF → FK a - FK a / bfL FK a * bfL FK a = 0) ∧ prL FK NF = lI (det m (LM E z)) ∧
    ¬ odV (fjE E) (fdE E) (m + 1) z (nF c) (lI (det m (LM E z))) = 0 ∧ bfL FK NF - bfL FK NF / odV (fjE E) (fdE E) (m + 1) z (nF c) (lI (det m (LM E z))) * odV (fjE E) (fdE E) (m + 1) z (nF c) (lI (det m (LM E z))) = 0 := by
  have hn := hG.1
  obtain ⟨d, hd⟩ := fac_of (LM_inj hG hC hm hz)
  obtain ⟨t, t1, t2⟩ := ones_first hd.chain hd.nz
  have hb := LM_det_bd hG z
  have htop : (det m (LM E z)).natAbs = prdD d m := hd.top
  have hpm := hd.pos m (Nat.le_refl m)
  have hde : det m (LM E z) = (prdD d m : Int) := by omega
  rw [htop] at hb
  have hle : ∀ k, k ≤ m → prdD d k ≤ 100000000 := fun k hk => Nat.le_trans (Nat.le_of_dvd hpm (by have := prdD_up d k (m - k); rw [show k + (m - k) = m by omega] at this; exact this)) hb
  have hal : ∀ i, i < m → absD d i ≤ 100000000 := fun i hi => Nat.le_trans (Nat.le_of_dvd (hd.pos (i + 1) hi) (by rw [prdD_s]; exact Nat.dvd_mul_left _ _)) (hle (i + 1) hi)
  have hap : ∀ i, i < m → 0 < absD d i := fun i hi => by have := hd.nz i hi; unfold absD; omega
  have hone := prdD_ones hd.nz t2 t1
  have hF : ∀ a, (fun a => lI (absD d (t + a) : Int)) a = lI (absD d (t + a) : Int) := fun a => rfl
  have hpr := prL_go (hone t (Nat.le_refl t)) hF
  -- the last one
  have hlast : bfL (fun a => lI (absD d (t + a) : Int)) (m - t) = lI (absD d (m - 1) : Int) := by
    by_cases q : t = m
    · rw [q, Nat.sub_self]
      show (1 : Int64) = _
      have h1 := prdD_s d (m - 1)
      rw [show m - 1 + 1 = m by omega, hone m (by omega), hone (m - 1) (by omega), Nat.one_mul] at h1
      rw [← h1]; exact lI_1.symm
    · obtain ⟨b, hbq⟩ : ∃ b, m - t = b + 1 := ⟨m - t - 1, by omega⟩
      rw [hbq]
      show lI (absD d (t + b) : Int) = _
      rw [show t + b = m - 1 by omega]
  rw [hde]
  refine ⟨by omega, m - t, fun a => lI (absD d (t + a) : Int), fun q => (ffS_go hG hd t2 q hb m (Nat.le_refl m)).2.1, by omega, fun q => (ffS_go hG hd t2 q hb m (Nat.le_refl m)).2.2, fun a ha => ?_, fun a ha => ?_, fun a ha => ?_, ?_, ?_⟩
  · have h1 := (t2 (t + a) (by omega)).mpr (by omega)
    have h2 := hal (t + a) (by omega)
    show ¬ lI (absD d (t + a) : Int) < 2
    rw [show (2 : Int64) = lI 2 by decide, Int64.lt_iff_toInt_lt, lI_toInt (by omega) (by omega), lI_toInt (by omega) (by omega)]
    omega
  · cases a with
    | zero => show ¬ (1 : Int64) = 0; decide
    | succ b =>
      have h1 := hap (t + b) (by omega)
      have h2 := hal (t + b) (by omega)
      show ¬ lI (absD d (t + b) : Int) = 0
      intro w
      have := (lI_z (by omega) (by omega)).mp w
      omega
  · have h2 := hal (t + a) (by omega)
    cases a with
    | zero =>
      show lI (absD d (t + 0) : Int) - lI (absD d (t + 0) : Int) / 1 * 1 = 0
      rw [show (1 : Int64) = lI ((1 : Nat) : Int) by decide, lI_mod (by omega) (by omega), Nat.mod_one]
      exact lI_0
    | succ b =>
      have h3 := hal (t + b) (by omega)
      show lI (absD d (t + (b + 1)) : Int) - lI (absD d (t + (b + 1)) : Int) / lI (absD d (t + b) : Int) * lI (absD d (t + b) : Int) = 0
      have h4 : absD d (t + b) ∣ absD d (t + (b + 1)) := Int.natAbs_dvd_natAbs.mpr (hd.chain (t + b) (by omega))
      rw [lI_mod (by omega) (by omega), Nat.mod_eq_zero_of_dvd h4]
      exact lI_0
  · rw [hpr, show t + (m - t) = m by omega]
  · obtain ⟨G, g1, g2, g3, g4⟩ := odC_go hG (z := z) hc (T := prdD d m) (by omega) hpm m (Nat.le_refl m)
    have hGd : (G : Int) ∣ (prdD d m : Int) := ((g4 G).mp (Int.dvd_refl _)).1
    have hGn : G ∣ prdD d m := Int.natCast_dvd_natCast.mp hGd
    obtain ⟨o, ho⟩ := hGn
    have hodV : odV (fjE E) (fdE E) (m + 1) z (nF c) (lI (prdD d m : Int)) = lI (o : Int) := by
      unfold odV
      rw [Nat.add_sub_cancel, g1, if_neg (fun w => by have := (lI_z (by omega) (by omega)).mp w; omega), lI_divN (by omega) (by omega)]
      congr 2
      rw [ho, Nat.mul_div_cancel_left _ g3]
    have ho0 : 0 < o := Nat.pos_of_ne_zero fun q => by rw [q, Nat.mul_zero] at ho; omega
    have hole : o ≤ 100000000 := Nat.le_trans (Nat.le_of_dvd hpm ⟨G, by rw [ho, Nat.mul_comm]⟩) hb
    rw [hodV, hlast]
    have hal1 := hal (m - 1) (by omega)
    refine ⟨fun w => by have := (lI_z (by omega) (by omega)).mp w; omega, ?_⟩
    have hps : prdD d m = prdD d (m - 1) * absD d (m - 1) := by
      have := prdD_s d (m - 1)
      rw [show m - 1 + 1 = m by omega] at this
      exact this
    have hx : (prdD d (m - 1) : Int) ∣ (G : Int) := by
      refine (g4 _).mpr ⟨Int.natCast_dvd_natCast.mpr ⟨_, hps⟩, fun pl hpl => ?_⟩
      obtain ⟨k, rfl⟩ : ∃ k, m = k + 1 := ⟨m - 1, by omega⟩
      refine dw_dvd hpl ?_
      rw [Nat.add_sub_cancel]
      have h5 := (hd.dv k (prdD d k : Int) (by omega)).mpr (by unfold prdD; exact Int.natAbs_dvd.mpr (Int.dvd_refl _))
      exact h5
    obtain ⟨h, hh⟩ := Int.natCast_dvd_natCast.mp hx
    have hp1 := hd.pos (m - 1) (by omega)
    have heq : absD d (m - 1) = h * o := by
      have h6 : prdD d (m - 1) * absD d (m - 1) = prdD d (m - 1) * (h * o) := by rw [← hps, ho, hh, Nat.mul_assoc]
      exact Nat.eq_of_mul_eq_mul_left hp1 h6
    rw [lI_mod (by omega) (by omega), heq, Nat.mul_mod_left]
    exact lI_0
