/-! MINORS: masks of rows and of columns, the divisors of them all -/
theorem tdiv_n (a b : Nat) : Int.tdiv (a : Int) (b : Int) = ((a / b : Nat) : Int) := rfl
theorem lI_divN {a b : Nat} (ha : a < 2 ^ 62) (hb : b < 2 ^ 62) : lI (a : Int) / lI (b : Int) = lI ((a / b : Nat) : Int) := by
  apply Int64.toInt_inj.mp
  rw [Int64.toInt_div, lI_toInt (by omega) (by omega), lI_toInt (by omega) (by omega), tdiv_n]
  exact Int64.toInt_ofInt.symm
theorem lI_mod {a b : Nat} (ha : a < 2 ^ 62) (hb : b < 2 ^ 62) : lI (a : Int) - lI (a : Int) / lI (b : Int) * lI (b : Int) = lI ((a % b : Nat) : Int) := by
  rw [lI_divN ha hb, lI_mul, lI_sub]
  have h := Nat.div_add_mod a b
  have h2 : ((a / b : Nat) : Int) * (b : Int) = ((b * (a / b) : Nat) : Int) := by rw [Int.natCast_mul, Int.mul_comm]
  rw [h2]
  congr 1
  generalize b * (a / b) = q at h
  omega
theorem cdL_go : ∀ (r a b : Nat), b ≤ a → a * b < 2 ^ r → a < 2 ^ 62 → cdL (r + 1) (lI (a : Int)) (lI (b : Int)) = lI ((Nat.gcd a b : Nat) : Int)
  | 0, a, b, hba, h, ha => by
    have hb : b = 0 := by
      rcases Nat.eq_zero_or_pos b with q | q
      · exact q
      · have := Nat.mul_le_mul hba (Nat.le_refl b)
        have h2 : 1 * 1 ≤ a * b := Nat.mul_le_mul (by omega) q
        omega
    subst hb
    show (if lI ((0 : Nat) : Int) = 0 then lI (a : Int) else _) = _
    rw [if_pos (show lI ((0 : Nat) : Int) = 0 from lI_0), Nat.gcd_zero_right]
  | r + 1, a, b, hba, h, ha => by
    show (if lI (b : Int) = 0 then lI (a : Int) else cdL (r + 1) (lI (b : Int)) (lI (a : Int) - lI (a : Int) / lI (b : Int) * lI (b : Int))) = _
    rcases Nat.eq_zero_or_pos b with q | q
    · subst q
      rw [if_pos (show lI ((0 : Nat) : Int) = 0 from lI_0), Nat.gcd_zero_right]
    · rw [if_neg (fun w => by have := (lI_z (by omega) (by omega)).mp w; omega), lI_mod ha (by omega)]
      have hm := Nat.mod_lt a q
      have h2 : 2 * (a % b) ≤ a := by
        have h3 := Nat.div_add_mod a b
        have h4 : b * 1 ≤ b * (a / b) := Nat.mul_le_mul (Nat.le_refl b) (Nat.div_pos hba q)
        omega
      have h5 : b * (2 * (a % b)) ≤ b * a := Nat.mul_le_mul (Nat.le_refl b) h2
      rw [Nat.mul_comm a b] at h
      rw [Nat.pow_succ] at h
      have h6 : b * (2 * (a % b)) = 2 * (b * (a % b)) := Nat.mul_left_comm _ _ _
      rw [cdL_go r b (a % b) (Nat.le_of_lt hm) (by omega) (by omega)]
      congr 2
      rw [Nat.gcd_comm a b, Nat.gcd_rec b a, Nat.gcd_comm]
theorem abL_e {x : Int} (h1 : -2 ^ 62 < x) (h2 : x < 2 ^ 62) : abL (lI x) = lI ((x.natAbs : Nat) : Int) := by
  unfold abL
  have h : 0 < lI x ↔ 0 < x := by
    rw [← lI_0, Int64.lt_iff_toInt_lt, lI_toInt (by omega) (by omega), lI_toInt (by omega) (by omega)]
  by_cases q : 0 < x
  · rw [if_pos (h.mpr q)]
    congr 1; omega
  · rw [if_neg (fun w => q (h.mp w)), lI_neg]
    congr 1; omega
theorem cdV_go {x y : Int} (h1 : -2 ^ 60 ≤ x) (h2 : x ≤ 2 ^ 60) (h3 : -2 ^ 60 ≤ y) (h4 : y ≤ 2 ^ 60) : cdV (lI x) (lI y) = lI ((Nat.gcd x.natAbs y.natAbs : Nat) : Int) := by
  unfold cdV
  rw [abL_e (by omega) (by omega), abL_e (by omega) (by omega)]
  have hx : x.natAbs ≤ 2 ^ 60 := by omega
  have hy : y.natAbs ≤ 2 ^ 60 := by omega
  generalize x.natAbs = a at hx
  generalize y.natAbs = b at hy
  have hbig : ∀ {c d : Nat} (k : Nat), c ≤ 2 ^ 60 → d ≤ 2 ^ 60 → 121 ≤ k → c * d < 2 ^ k := by
    intro c d k hc hd hk
    have h5 := Nat.mul_le_mul hc hd
    have h6 : 2 ^ 121 ≤ 2 ^ k := Nat.pow_le_pow_right (by omega) hk
    omega
  by_cases hab : b ≤ a
  · rw [show mR = 999999 + 1 from rfl]
    exact cdL_go 999999 a b hab (hbig _ hx hy (by omega)) (by omega)
  · rw [show mR = (999998 + 1) + 1 from rfl]
    show (if lI (b : Int) = 0 then lI (a : Int) else cdL (999998 + 1) (lI (b : Int)) (lI (a : Int) - lI (a : Int) / lI (b : Int) * lI (b : Int))) = _
    rw [if_neg (fun w => by have := (lI_z (by omega) (by omega)).mp w; omega), lI_mod (by omega) (by omega), Nat.mod_eq_of_lt (by omega), cdL_go 999998 b a (by omega) (hbig _ hy hx (by omega)) (by omega), Nat.gcd_comm]
theorem bit_nI {s i : Nat} (hi : i < 6) : bitI (nI s) i = s.testBit i := by
  rw [bitI_get _ hi]
  show (BitVec.ofNat 32 s).getLsbD i = _
  rw [BitVec.getLsbD_ofNat, decide_eq_true (by omega), Bool.true_and]
def pcN (s : Nat) : Nat → Nat
  | 0 => 0
  | i + 1 => if s.testBit i = true then pcN s i + 1 else pcN s i
def sel (s : Nat) : Nat → Nat → Nat
  | 0, _ => 0
  | m + 1, r => if s.testBit m = true ∧ pcN s m = r then m else sel s m r
theorem pcN_le (s : Nat) : ∀ m, pcN s m ≤ m
  | 0 => Nat.le_refl _
  | m + 1 => by
    have := pcN_le s m
    show (if s.testBit m = true then pcN s m + 1 else pcN s m) ≤ m + 1
    split <;> omega
theorem pcI_N {s : Nat} : ∀ m, m ≤ 6 → pcI (nI s) m = pcN s m
  | 0, _ => rfl
  | m + 1, hm => by
    show (if bitI (nI s) m = true then pcI (nI s) m + 1 else pcI (nI s) m) = if s.testBit m = true then pcN s m + 1 else pcN s m
    rw [bit_nI (by omega), pcI_N m (by omega)]
theorem sel_lt {s : Nat} : ∀ {m r : Nat}, r < pcN s m → sel s m r < m
  | 0, _, h => absurd h (Nat.not_lt_zero _)
  | m + 1, r, h => by
    show (if s.testBit m = true ∧ pcN s m = r then m else sel s m r) < m + 1
    by_cases hc : s.testBit m = true ∧ pcN s m = r
    · rw [if_pos hc]; omega
    · rw [if_neg hc]
      have h2 : r < pcN s m := by
        have h3 : r < (if s.testBit m = true then pcN s m + 1 else pcN s m) := h
        by_cases hb : s.testBit m = true
        · rw [if_pos hb] at h3
          have : pcN s m ≠ r := fun q => hc ⟨hb, q⟩
          omega
        · rw [if_neg hb] at h3; exact h3
      have := sel_lt h2
      omega
theorem sel_cong {s t : Nat} : ∀ {m : Nat}, (∀ i, i < m → s.testBit i = t.testBit i) → pcN s m = pcN t m ∧ ∀ r, sel s m r = sel t m r
  | 0, _ => ⟨rfl, fun _ => rfl⟩
  | m + 1, h => by
    obtain ⟨h1, h2⟩ := sel_cong (m := m) fun i hi => h i (by omega)
    constructor
    · show (if s.testBit m = true then pcN s m + 1 else pcN s m) = if t.testBit m = true then pcN t m + 1 else pcN t m
      rw [h m (by omega), h1]
    · intro r
      show (if s.testBit m = true ∧ pcN s m = r then m else sel s m r) = if t.testBit m = true ∧ pcN t m = r then m else sel t m r
      rw [h m (by omega), h1, h2 r]
theorem inc_lt {f : Nat → Nat} {k : Nat} (h : ∀ r, r + 1 < k → f r < f (r + 1)) : ∀ d r, r + d + 1 < k → f r < f (r + d + 1)
  | 0, r, hr => h r hr
  | d + 1, r, hr => Nat.lt_trans (inc_lt h d r (by omega)) (h (r + d + 1) hr)
theorem mask_of : ∀ (m k : Nat) (f : Nat → Nat), (∀ r, r < k → f r < m) → (∀ r, r + 1 < k → f r < f (r + 1)) → ∃ s, s < 2 ^ m ∧ pcN s m = k ∧ ∀ r, r < k → sel s m r = f r
  | 0, k, f, h1, _ => by
    have hk : k = 0 := Nat.eq_zero_of_not_pos fun q => Nat.not_lt_zero _ (h1 0 q)
    exact ⟨0, by decide, hk.symm, fun r hr => by omega⟩
  | m + 1, k, f, h1, h2 => by
    by_cases hc : 0 < k ∧ f (k - 1) = m
    · obtain ⟨hk, hf⟩ := hc
      obtain ⟨t, t1, t2, t3⟩ := mask_of m (k - 1) f (fun r hr => by
        have := inc_lt h2 (k - 1 - r - 1) r (by omega)
        rw [show r + (k - 1 - r - 1) + 1 = k - 1 by omega, hf] at this
        exact this) (fun r hr => h2 r (by omega))
      obtain ⟨c1, c2⟩ := sel_cong (s := 2 ^ m + t) (t := t) (m := m) fun i hi => Nat.testBit_two_pow_add_gt hi t
      have hb : (2 ^ m + t).testBit m = true := by rw [Nat.testBit_two_pow_add_eq, Nat.testBit_lt_two_pow t1]; rfl
      refine ⟨2 ^ m + t, by rw [Nat.pow_succ]; omega, ?_, fun r hr => ?_⟩
      · show (if (2 ^ m + t).testBit m = true then pcN (2 ^ m + t) m + 1 else pcN (2 ^ m + t) m) = k
        rw [if_pos hb, c1, t2]; omega
      · show (if (2 ^ m + t).testBit m = true ∧ pcN (2 ^ m + t) m = r then m else sel (2 ^ m + t) m r) = f r
        by_cases hr2 : r = k - 1
        · rw [if_pos ⟨hb, by rw [c1, t2, hr2]⟩, hr2, hf]
        · rw [if_neg (fun q => hr2 (by rw [← q.2, c1, t2])), c2, t3 r (by omega)]
    · obtain ⟨t, t1, t2, t3⟩ := mask_of m k f (fun r hr => by
        have h3 := h1 r hr
        have h4 : f (k - 1) < m := by
          have := h1 (k - 1) (by omega)
          have : f (k - 1) ≠ m := fun q => hc ⟨by omega, q⟩
          omega
        by_cases hr2 : r = k - 1
        · rw [hr2]; exact h4
        · have := inc_lt h2 (k - 1 - r - 1) r (by omega)
          rw [show r + (k - 1 - r - 1) + 1 = k - 1 by omega] at this
          omega) h2
      have hb : t.testBit m = false := Nat.testBit_lt_two_pow t1
      refine ⟨t, by rw [Nat.pow_succ]; omega, ?_, fun r hr => ?_⟩
      · show (if t.testBit m = true then pcN t m + 1 else pcN t m) = k
        rw [hb, if_neg Bool.false_ne_true, t2]
      · show (if t.testBit m = true ∧ pcN t m = r then m else sel t m r) = f r
        rw [hb, if_neg (fun q => Bool.false_ne_true q.1), t3 r hr]
theorem mnC_at {fj fd : Nat → Int32} {z c r i : Nat} {M : Nat → Int64} : ∀ j, j ≤ 5 → (∀ a b, a ≠ r → b < 5 → mnC fj fd z (nI c) r i M j (a * 5 + b) = M (a * 5 + b)) ∧ ∀ b, b < pcN c j → mnC fj fd z (nI c) r i M j (r * 5 + b) = (entI fj fd z i (sel c j b)).toInt64
  | 0, _ => ⟨fun _ _ _ _ => rfl, fun b hb => absurd hb (Nat.not_lt_zero _)⟩
  | j + 1, hj => by
    obtain ⟨h1, h2⟩ := mnC_at (fj := fj) (fd := fd) (z := z) (c := c) (r := r) (i := i) (M := M) j (by omega)
    have hle := pcN_le c j
    have e : mnC fj fd z (nI c) r i M (j + 1) = if bitI (nI c) j = true then vp_updL (mnC fj fd z (nI c) r i M j) (r * 5 + pcI (nI c) j) (entI fj fd z i j).toInt64 else mnC fj fd z (nI c) r i M j := rfl
    rw [e, bit_nI (by omega), pcI_N j (by omega)]
    by_cases hb : c.testBit j = true
    · rw [if_pos hb]
      refine ⟨fun a b ha hb5 => ?_, fun b hbl => ?_⟩
      · rw [upL_n _ _ (by omega)]
        exact h1 a b ha hb5
      · have hbl2 : b < (if c.testBit j = true then pcN c j + 1 else pcN c j) := hbl
        rw [if_pos hb] at hbl2
        show _ = (entI fj fd z i (if c.testBit j = true ∧ pcN c j = b then j else sel c j b)).toInt64
        by_cases hq : pcN c j = b
        · rw [if_pos ⟨hb, hq⟩, ← hq, upL_s]
        · rw [if_neg (fun w => hq w.2), upL_n _ _ (by omega)]
          exact h2 b (by omega)
    · rw [if_neg hb]
      refine ⟨h1, fun b hbl => ?_⟩
      have hbl2 : b < (if c.testBit j = true then pcN c j + 1 else pcN c j) := hbl
      rw [if_neg hb] at hbl2
      show _ = (entI fj fd z i (if c.testBit j = true ∧ pcN c j = b then j else sel c j b)).toInt64
      rw [if_neg (fun w => hb w.1)]
      exact h2 b hbl2
theorem mnR_at {fj fd : Nat → Int32} {z m s c : Nat} {M : Nat → Int64} (hm : m ≤ 5) : ∀ i, i ≤ m → ∀ a b, a < pcN s i → b < pcN c m → mnR fj fd z m (nI s) (nI c) M i (a * 5 + b) = (entI fj fd z (sel s i a) (sel c m b)).toInt64
  | 0, _, a, b, ha, _ => absurd ha (Nat.not_lt_zero _)
  | i + 1, hi, a, b, ha, hb => by
    have hle := pcN_le c m
    have e : mnR fj fd z m (nI s) (nI c) M (i + 1) = if bitI (nI s) i = true then mnC fj fd z (nI c) (pcI (nI s) i) i (mnR fj fd z m (nI s) (nI c) M i) m else mnR fj fd z m (nI s) (nI c) M i := rfl
    rw [e, bit_nI (by omega), pcI_N i (by omega)]
    have ha2 : a < (if s.testBit i = true then pcN s i + 1 else pcN s i) := ha
    show _ = (entI fj fd z (if s.testBit i = true ∧ pcN s i = a then i else sel s i a) (sel c m b)).toInt64
    by_cases hs : s.testBit i = true
    · rw [if_pos hs] at ha2
      rw [if_pos hs]
      obtain ⟨h1, h2⟩ := mnC_at (fj := fj) (fd := fd) (z := z) (c := c) (r := pcN s i) (i := i) (M := mnR fj fd z m (nI s) (nI c) M i) m hm
      by_cases hq : pcN s i = a
      · rw [if_pos ⟨hs, hq⟩, ← hq]
        exact h2 b hb
      · rw [if_neg (fun w => hq w.2), h1 a b (fun w => hq w.symm) (by omega)]
        exact mnR_at hm i (by omega) a b (by omega) hb
    · rw [if_neg hs] at ha2
      rw [if_neg hs, if_neg (fun w => hs w.1)]
      exact mnR_at hm i (by omega) a b ha2 hb
theorem iI_64 {x : Int} (h1 : -2 ^ 31 ≤ x) (h2 : x < 2 ^ 31) : (iI x).toInt64 = lI x := by
  apply Int64.toInt_inj.mp
  rw [Int32.toInt_toInt64, iI_toInt h1 h2, lI_toInt (by omega) (by omega)]
theorem ent_L {n : Nat} {E : Nat → Nat → Nat} (hG : Gr n E) {z i j : Nat} (hj : skp z j < 6) : (entI (fjE E) (fdE E) z i j).toInt64 = lI (LM E z i j) := by
  have h1 := dg_le hG (skp z i)
  have h2 := hG.2.2.2.2 (skp z i) (skp z j)
  unfold entI LM
  by_cases h : i = j
  · rw [if_pos h, if_pos h]
    show (nI (dg E (skp z i))).toInt64 = _
    rw [← iI_n]
    exact iI_64 (by omega) (by omega)
  · rw [if_neg h, if_neg h, fjE_at E hj, ← iI_n, iI_neg]
    exact iI_64 (by omega) (by omega)
theorem LM_bd {n : Nat} {E : Nat → Nat → Nat} (hG : Gr n E) (z i j : Nat) : -15 ≤ LM E z i j ∧ LM E z i j ≤ 15 := by
  have h1 := dg_le hG (skp z i)
  have h2 := hG.2.2.2.2 (skp z i) (skp z j)
  unfold LM
  split <;> omega
theorem bq_5 {j : Nat} (h : j < 5) : bq 5 j = 15 := if_neg (by omega)
/-- the minor at two masks -/
def mnZ (m : Nat) (E : Nat → Nat → Nat) (z k s c : Nat) : Int := det k (fun a b => LM E z (sel s m a) (sel c m b))
theorem mnV_go {m : Nat} {E : Nat → Nat → Nat} (hG : Gr (m + 1) E) {z k s c : Nat} (hs : pcN s m = k) (hc : pcN c m = k) : mnV (fjE E) (fdE E) (m + 1) z (nI s) (nI c) = lI (mnZ m E z k s c) := by
  have hn := hG.1
  have hk : k ≤ m := by rw [← hs]; exact pcN_le s m
  unfold mnV
  rw [Nat.add_sub_cancel, pcI_N m (by omega), hs]
  refine dtV_go (pl := 5) (by omega) (by omega) (fun i j _ hj => ?_) fun i j hi hj => ?_
  · rw [bq_5 (by omega)]
    exact LM_bd hG z _ _
  · rw [mnR_at (by omega) m (Nat.le_refl _) i j (by omega) (by omega)]
    refine ent_L hG ?_
    have := skp_lt (j := z) (sel_lt (s := c) (m := m) (r := j) (by omega))
    omega
theorem mnZ_bd {m : Nat} {E : Nat → Nat → Nat} (hG : Gr (m + 1) E) {z k s c : Nat} (hk : k ≤ m) : -2 ^ 40 ≤ mnZ m E z k s c ∧ mnZ m E z k s c ≤ 2 ^ 40 := by
  have hn := hG.1
  exact det_bd (pl := 5) (s := k) (by omega) (by omega) (Nat.le_refl _) fun i j _ hj => by
    rw [bq_5 (by omega)]
    exact LM_bd hG z _ _
theorem mnZ_sym {m : Nat} {E : Nat → Nat → Nat} (hG : Gr (m + 1) E) {z k s c : Nat} : mnZ m E z k s c = mnZ m E z k c s := by
  unfold mnZ
  rw [← det_tr k (fun a b => LM E z (sel s m a) (sel c m b))]
  exact det_congr fun i j _ _ => LM_sym hG z _ _
theorem bcm_all : (List.range 6).all (fun m => (List.range (2 ^ m)).all fun s => decide (bcI (nI s) = nI (pcN s m))) = true := by decide +kernel
theorem bcm_pc {m s : Nat} (hm : m ≤ 5) (hs : s < 2 ^ m) : bcI (nI s) = nI (pcN s m) := of_decide_eq_true (List.all_eq_true.mp (List.all_eq_true.mp bcm_all m (List.mem_range.mpr (by omega))) s (List.mem_range.mpr hs))
theorem gcd_le40 {a b : Nat} (ha : a ≤ 2 ^ 40) (hb : b ≤ 2 ^ 40) : Nat.gcd a b ≤ 2 ^ 40 := by
  rcases Nat.eq_zero_or_pos a with q | q
  · rw [q, Nat.gcd_zero_left]; exact hb
  · exact Nat.le_trans (Nat.gcd_le_left b q) ha
theorem dvd_gcdI {x : Int} {a : Nat} {y : Int} : x ∣ ((Nat.gcd a y.natAbs : Nat) : Int) ↔ x ∣ (a : Int) ∧ x ∣ y := by
  rw [← Int.natAbs_dvd, ← Int.natAbs_dvd (b := (a : Int)), ← Int.natAbs_dvd_natAbs (a := x) (b := y), Int.natCast_dvd_natCast, Int.natCast_dvd_natCast, Nat.dvd_gcd_iff]
theorem dvC_go {m : Nat} {E : Nat → Nat → Nat} (hG : Gr (m + 1) E) {z k r : Nat} (hk : k ≤ m) (hr : r < 2 ^ m) {d : Nat} (hd : d ≤ 2 ^ 40) : ∀ y, r + y ≤ 2 ^ m → ∃ e : Nat, dvC (fjE E) (fdE E) (m + 1) z k r (lI (d : Int)) y = lI (e : Int) ∧ e ≤ 2 ^ 40 ∧ ∀ x : Int, x ∣ (e : Int) ↔ (x ∣ (d : Int) ∧ ∀ c, r ≤ c → c < r + y → pcN r m = k → pcN c m = k → x ∣ mnZ m E z k r c)
  | 0, _ => ⟨d, rfl, hd, fun x => ⟨fun q => ⟨q, fun c h1 h2 => by omega⟩, fun q => q.1⟩⟩
  | y + 1, hy => by
    have hn := hG.1
    obtain ⟨e, h1, h2, h3⟩ := dvC_go hG (z := z) hk hr hd y (by omega)
    have hun : dvC (fjE E) (fdE E) (m + 1) z k r (lI (d : Int)) (y + 1) = if dvC (fjE E) (fdE E) (m + 1) z k r (lI (d : Int)) y = 1 then 1 else if bcI (nI r) = nI k ∧ bcI (nI (r + y)) = nI k then cdV (dvC (fjE E) (fdE E) (m + 1) z k r (lI (d : Int)) y) (mnV (fjE E) (fdE E) (m + 1) z (nI r) (nI (r + y))) else dvC (fjE E) (fdE E) (m + 1) z k r (lI (d : Int)) y := rfl
    rw [hun, h1]
    by_cases he : lI (e : Int) = 1
    · rw [if_pos he]
      have he1 : (e : Int) = 1 := (lI_inj (by omega) (by omega) (by omega) (by omega)).mp (he.trans lI_1.symm)
      refine ⟨1, lI_1.symm, by omega, fun x => ?_⟩
      have h4 := h3 x
      rw [he1] at h4
      show x ∣ 1 ↔ _
      constructor
      · intro q
        exact ⟨(h4.mp q).1, fun c _ _ _ _ => Int.dvd_trans q (Int.one_dvd _)⟩
      · intro q
        exact h4.mpr ⟨q.1, fun c a1 a2 => q.2 c a1 (by omega)⟩
    · rw [if_neg he]
      have hpr := bcm_pc (m := m) (s := r) (by omega) hr
      have hpc := bcm_pc (m := m) (s := r + y) (by omega) (by omega)
      have hl1 := pcN_le r m
      have hl2 := pcN_le (r + y) m
      by_cases hb : pcN r m = k ∧ pcN (r + y) m = k
      · rw [if_pos ⟨by rw [hpr, hb.1], by rw [hpc, hb.2]⟩, mnV_go hG hb.1 hb.2]
        have hbd := mnZ_bd hG (z := z) (s := r) (c := r + y) hk
        rw [cdV_go (by omega) (by omega) (by omega) (by omega), Int.natAbs_natCast]
        refine ⟨_, rfl, gcd_le40 h2 (by omega), fun x => ?_⟩
        rw [dvd_gcdI, h3 x]
        constructor
        · rintro ⟨⟨a1, a2⟩, a3⟩
          refine ⟨a1, fun c c1 c2 p1 p2 => ?_⟩
          by_cases hcy : c = r + y
          · rw [hcy]; exact a3
          · exact a2 c c1 (by omega) p1 p2
        · rintro ⟨a1, a2⟩
          exact ⟨⟨a1, fun c c1 c2 => a2 c c1 (by omega)⟩, a2 (r + y) (by omega) (by omega) hb.1 hb.2⟩
      · rw [if_neg (fun q => hb ⟨by
          have := q.1; rw [hpr] at this
          exact (nI_eq (by omega) (by omega)).mp this, by
          have := q.2; rw [hpc] at this
          exact (nI_eq (by omega) (by omega)).mp this⟩)]
        refine ⟨e, rfl, h2, fun x => ?_⟩
        rw [h3 x]
        constructor
        · rintro ⟨a1, a2⟩
          refine ⟨a1, fun c c1 c2 p1 p2 => ?_⟩
          by_cases hcy : c = r + y
          · exact absurd ⟨p1, by rw [← hcy]; exact p2⟩ hb
          · exact a2 c c1 (by omega) p1 p2
        · rintro ⟨a1, a2⟩
          exact ⟨a1, fun c c1 c2 => a2 c c1 (by omega)⟩
theorem dvO_go {m : Nat} {E : Nat → Nat → Nat} (hG : Gr (m + 1) E) {z k : Nat} (hk : k ≤ m) : ∀ x, x < 2 ^ m → ∃ e : Nat, dvO (fjE E) (fdE E) (m + 1) z k x = lI (e : Int) ∧ e ≤ 2 ^ 40 ∧ ∀ y : Int, y ∣ (e : Int) ↔ ∀ r c, 1 ≤ r → r ≤ x → r ≤ c → c < 2 ^ m → pcN r m = k → pcN c m = k → y ∣ mnZ m E z k r c
  | 0, _ => ⟨0, lI_0.symm, by omega, fun y => ⟨fun _ r c h1 h2 => by omega, fun _ => Int.dvd_zero _⟩⟩
  | x + 1, hx => by
    obtain ⟨e, h1, h2, h3⟩ := dvO_go hG (z := z) hk x (by omega)
    have hun : dvO (fjE E) (fdE E) (m + 1) z k (x + 1) = if dvO (fjE E) (fdE E) (m + 1) z k x = 1 then 1 else dvC (fjE E) (fdE E) (m + 1) z k (x + 1) (dvO (fjE E) (fdE E) (m + 1) z k x) (2 ^ (m + 1 - 1) - (x + 1)) := rfl
    rw [hun, h1]
    by_cases he : lI (e : Int) = 1
    · rw [if_pos he]
      have he1 : (e : Int) = 1 := (lI_inj (by omega) (by omega) (by omega) (by omega)).mp (he.trans lI_1.symm)
      refine ⟨1, lI_1.symm, by omega, fun y => ?_⟩
      have h4 := h3 y
      rw [he1] at h4
      show y ∣ 1 ↔ _
      constructor
      · intro q r c _ _ _ _ _ _
        exact Int.dvd_trans q (Int.one_dvd _)
      · intro q
        exact h4.mpr fun r c a1 a2 => q r c a1 (by omega)
    · rw [if_neg he, Nat.add_sub_cancel]
      obtain ⟨e2, g1, g2, g3⟩ := dvC_go hG (z := z) (k := k) hk hx h2 (2 ^ m - (x + 1)) (by omega)
      refine ⟨e2, g1, g2, fun y => ?_⟩
      rw [g3 y, h3 y]
      constructor
      · rintro ⟨a1, a2⟩ r c b1 b2 b3 b4 p1 p2
        by_cases hr : r = x + 1
        · subst hr; exact a2 c b3 (by omega) p1 p2
        · exact a1 r c b1 (by omega) b3 b4 p1 p2
      · intro a
        exact ⟨fun r c b1 b2 => a r c b1 (by omega), fun c c1 c2 p1 p2 => a (x + 1) c (by omega) (Nat.le_refl _) c1 (by omega) p1 p2⟩
theorem pcN_0 : ∀ m, pcN 0 m = 0
  | 0 => rfl
  | m + 1 => by
    show (if (0 : Nat).testBit m = true then _ else pcN 0 m) = 0
    rw [Nat.zero_testBit, if_neg Bool.false_ne_true, pcN_0 m]
/-- the greatest divisor of the minors of a size -/
theorem dvV_go {m : Nat} {E : Nat → Nat → Nat} (hG : Gr (m + 1) E) {z k : Nat} (hk : k ≤ m) (hk1 : 1 ≤ k) : ∃ e : Nat, dvV (fjE E) (fdE E) (m + 1) z k = lI (e : Int) ∧ e ≤ 2 ^ 40 ∧ ∀ x : Int, Dv m k (LM E z) x ↔ x ∣ (e : Int) := by
  have hp : 0 < 2 ^ m := Nat.pow_pos (by omega)
  obtain ⟨e, h1, h2, h3⟩ := dvO_go hG (z := z) hk (2 ^ m - 1) (by omega)
  refine ⟨e, h1, h2, fun x => ?_⟩
  rw [h3 x]
  constructor
  · intro h r c _ _ _ _ p1 p2
    exact h _ _ (fun a ha => sel_lt (by omega)) (fun a ha => sel_lt (by omega))
  · intro h
    refine Dv_rise fun f g hf hg hfr hgr => ?_
    obtain ⟨s, s1, s2, s3⟩ := mask_of m k f hf hfr
    obtain ⟨t, t1, t2, t3⟩ := mask_of m k g hg hgr
    have hne : ∀ u, pcN u m = k → 1 ≤ u := fun u hu => Nat.pos_of_ne_zero fun q => by rw [q, pcN_0] at hu; omega
    have he : det k (fun r c => LM E z (f r) (g c)) = mnZ m E z k s t := det_congr fun i j hi hj => by rw [s3 i hi, t3 j hj]
    rw [he]
    rcases Nat.le_total s t with q | q
    · exact h s t (hne s s2) (by omega) q t1 s2 t2
    · rw [mnZ_sym hG]
      exact h t s (hne t t2) (by omega) q s1 t2 s2
