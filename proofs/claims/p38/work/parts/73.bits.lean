/-! LINKS: what the walks' mirrors say, in numbers. BITS; whether the graph is whole -/
def fjE (E : Nat → Nat → Nat) (i : Nat) : Int32 := nI (E (i / 6) (i % 6))
def fdE (E : Nat → Nat → Nat) (v : Nat) : Int32 := nI (dg E v)
def nF (c : Nat → Nat) (v : Nat) : Int32 := nI (c v)
theorem fjE_at (E : Nat → Nat → Nat) {v w : Nat} (hw : w < 6) : fjE E (v * 6 + w) = nI (E v w) := by
  unfold fjE
  rw [show (v * 6 + w) / 6 = v by omega, show (v * 6 + w) % 6 = w by omega]
theorem nI_0i {a : Nat} (ha : a < 2 ^ 31) : nI a = 0 ↔ a = 0 := ⟨fun q => Nat.eq_zero_of_not_pos fun h => nI_ne0 h ha q, fun q => by rw [q]; rfl⟩
theorem nI_le0 {a : Nat} (ha : a < 2 ^ 31) : nI a ≤ 0 ↔ a = 0 := ⟨fun q => Nat.eq_zero_of_not_pos fun h => nI_nle h ha q, fun q => by rw [q]; decide⟩
theorem sshr_6 (M : Int32) {v : Nat} (hv : v < 6) : (M >>> (nI v &&& 31)).toBitVec = M.toBitVec.sshiftRight v := by
  rcases (show v = 0 ∨ v = 1 ∨ v = 2 ∨ v = 3 ∨ v = 4 ∨ v = 5 by omega) with rfl | rfl | rfl | rfl | rfl | rfl <;> rfl
theorem bitI_get (M : Int32) {v : Nat} (hv : v < 6) : bitI M v = M.toBitVec.getLsbD v := by
  unfold bitI
  rw [pk_and (M >>> (nI v &&& 31)) (m := 1) 1 (by decide), sshr_6 M hv]
  have h1 : (M.toBitVec.sshiftRight v).getLsbD 0 = M.toBitVec.getLsbD v := by
    rw [BitVec.getLsbD_sshiftRight]
    simp [show v < 32 by omega]
  have h2 : (M.toBitVec.sshiftRight v).toNat % 2 ^ 1 = if (M.toBitVec.sshiftRight v).getLsbD 0 = true then 1 else 0 := by
    rw [show (M.toBitVec.sshiftRight v).getLsbD 0 = (M.toBitVec.sshiftRight v).toNat.testBit 0 from rfl, Nat.testBit_zero]
    have := Nat.mod_two_eq_zero_or_one (M.toBitVec.sshiftRight v).toNat
    rcases this with q | q <;> simp [q]
  rw [h2, h1]
  cases M.toBitVec.getLsbD v <;> decide
theorem bitI_or (A B : Int32) {v : Nat} (hv : v < 6) : bitI (A ||| B) v = (bitI A v || bitI B v) := by
  rw [bitI_get _ hv, bitI_get _ hv, bitI_get _ hv, Int32.toBitVec_or, BitVec.getLsbD_or]
theorem bitI_0 {v : Nat} (hv : v < 6) : bitI 0 v = false := by
  rcases (show v = 0 ∨ v = 1 ∨ v = 2 ∨ v = 3 ∨ v = 4 ∨ v = 5 by omega) with rfl | rfl | rfl | rfl | rfl | rfl <;> decide
theorem bitI_1 {v w : Nat} (hv : v < 6) (hw : w < 6) : bitI (1 <<< (nI w &&& 31)) v = decide (v = w) := by
  rcases (show v = 0 ∨ v = 1 ∨ v = 2 ∨ v = 3 ∨ v = 4 ∨ v = 5 by omega) with rfl | rfl | rfl | rfl | rfl | rfl <;> rcases (show w = 0 ∨ w = 1 ∨ w = 2 ∨ w = 3 ∨ w = 4 ∨ w = 5 by omega) with rfl | rfl | rfl | rfl | rfl | rfl <;> decide
/-- the neighbours -/
theorem nbI_bit {E : Nat → Nat → Nat} (hE : ∀ i j, E i j ≤ 3) {S acc : Int32} {v x : Nat} (hv : v < 6) (hx : x < 6) : ∀ w, w ≤ 6 → bitI (nbI (fjE E) S v acc w) x = (bitI acc x || (decide (x < w) && (bitI S v && decide (0 < E v x))))
  | 0, _ => by
    show bitI acc x = _
    simp
  | w + 1, hw => by
    have ih := nbI_bit hE (S := S) (acc := acc) hv hx w (by omega)
    have e : nbI (fjE E) S v acc (w + 1) = if ((S >>> (nI v &&& 31)) &&& 1) = 1 ∧ ¬ fjE E (v * 6 + w) ≤ 0 then nbI (fjE E) S v acc w ||| (1 <<< (nI w &&& 31)) else nbI (fjE E) S v acc w := rfl
    rw [e, fjE_at E (show w < 6 by omega)]
    have hp : (((S >>> (nI v &&& 31)) &&& 1) = 1 ∧ ¬ nI (E v w) ≤ 0) ↔ (bitI S v && decide (0 < E v w)) = true := by
      rw [nI_le0 (by have := hE v w; omega)]
      unfold bitI
      simp only [Bool.and_eq_true, decide_eq_true_eq]
      exact ⟨fun q => ⟨q.1, by have := q.2; omega⟩, fun q => ⟨q.1, by have := q.2; omega⟩⟩
    by_cases hc : ((S >>> (nI v &&& 31)) &&& 1) = 1 ∧ ¬ nI (E v w) ≤ 0
    · rw [if_pos hc, bitI_or _ _ hx, ih, bitI_1 hx (by omega)]
      have hq := hp.mp hc
      by_cases hxw : x = w
      · subst hxw
        rw [hq, show decide (x < x + 1) = true from decide_eq_true (by omega), decide_eq_true rfl]
        simp
      · rw [show decide (x < w + 1) = decide (x < w) by rw [decide_eq_decide]; omega, decide_eq_false hxw, Bool.or_false]
    · rw [if_neg hc, ih]
      by_cases hxw : x = w
      · subst hxw
        have hq : (bitI S v && decide (0 < E v x)) = false := Bool.eq_false_iff.mpr fun q => hc (hp.mpr q)
        rw [hq, Bool.and_false, Bool.and_false]
      · rw [show decide (x < w + 1) = decide (x < w) by rw [decide_eq_decide]; omega]
theorem nbO_bit {E : Nat → Nat → Nat} (hE : ∀ i j, E i j ≤ 3) {S : Int32} {n x : Nat} (hn : n ≤ 6) (hx : x < n) : ∀ v, v ≤ n → (bitI (nbO (fjE E) n S v) x = true ↔ ∃ u, u < v ∧ bitI S u = true ∧ 0 < E u x)
  | 0, _ => by
    show bitI 0 x = true ↔ _
    rw [bitI_0 (by omega)]
    exact ⟨(fun q => Bool.noConfusion q), fun ⟨u, h, _⟩ => absurd h (Nat.not_lt_zero _)⟩
  | v + 1, hv => by
    have ih := nbO_bit hE (S := S) hn hx v (by omega)
    show bitI (nbI (fjE E) S v (nbO (fjE E) n S v) n) x = true ↔ _
    rw [nbI_bit hE (by omega) (by omega) n hn, Bool.or_eq_true, ih, show decide (x < n) = true from decide_eq_true hx, Bool.true_and, Bool.and_eq_true, decide_eq_true_eq]
    constructor
    · rintro (⟨u, h1, h2, h3⟩ | ⟨h1, h2⟩)
      · exact ⟨u, by omega, h2, h3⟩
      · exact ⟨v, by omega, h1, h2⟩
    · rintro ⟨u, h1, h2, h3⟩
      by_cases e : u = v
      · subst e; exact Or.inr ⟨h2, h3⟩
      · exact Or.inl ⟨u, by omega, h2, h3⟩
theorem gRe_lvl {n : Nat} {E : Nat → Nat → Nat} (hE : ∀ i j, E i j ≤ 3) (hn : n ≤ 6) (h1 : 1 ≤ n) : ∀ r, Lvl n E 0 r (bitI (gRe (fjE E) n r))
  | 0 => lvl_0 (by omega) fun v hv => by
    show bitI 1 v = true ↔ _
    have := bitI_1 (v := v) (w := 0) (by omega) (by omega)
    rw [show (1 : Int32) <<< (nI 0 &&& 31) = 1 by decide] at this
    rw [this, decide_eq_true_eq]
  | r + 1 => by
    have ih := gRe_lvl hE hn h1 r
    have hb : ∀ w, w < n → (bitI (gRe (fjE E) n (r + 1)) w = true ↔ bitI (gRe (fjE E) n r) w = true ∨ ∃ u, u < n ∧ bitI (gRe (fjE E) n r) u = true ∧ 0 < E u w) := fun w hw => by
      show bitI (gRe (fjE E) n r ||| nbO (fjE E) n (gRe (fjE E) n r) n) w = true ↔ _
      rw [bitI_or _ _ (by omega), Bool.or_eq_true, nbO_bit hE hn hw n (Nat.le_refl _)]
    refine lvl_step ih (by omega) (fun v hv q => (hb v hv).mpr (Or.inl q)) (fun v w hv hw q hE2 => (hb w hw).mpr (Or.inr ⟨v, hv, q, hE2⟩)) fun S hS hS0 v hv q => ?_
    rcases (hb v hv).mp q with q | ⟨u, hu, q, hE2⟩
    · exact ih.2.1 S hS hS0 v hv q
    · exact hS u v hu hv (ih.2.1 S hS hS0 u hu q) hE2
/-- a row of bits below n is full just if all its bits are set -/
theorem nb_lt {E : Nat → Nat → Nat} {n : Nat} (hn : n ≤ 6) {S acc : Int32} {v m : Nat} (ha : acc = nI m) (hm : m < 2 ^ n) : ∀ w, w ≤ n → ∃ m2, m2 < 2 ^ n ∧ nbI (fjE E) S v acc w = nI m2
  | 0, _ => ⟨m, hm, ha⟩
  | w + 1, hw => by
    obtain ⟨m2, h1, h2⟩ := nb_lt (E := E) hn (S := S) (v := v) ha hm w (by omega)
    have e : nbI (fjE E) S v acc (w + 1) = if ((S >>> (nI v &&& 31)) &&& 1) = 1 ∧ ¬ fjE E (v * 6 + w) ≤ 0 then nbI (fjE E) S v acc w ||| (1 <<< (nI w &&& 31)) else nbI (fjE E) S v acc w := rfl
    rw [e]
    split
    · refine ⟨m2 ||| 2 ^ w, Nat.or_lt_two_pow h1 (Nat.pow_lt_pow_right (by omega) (by omega)), ?_⟩
      rw [h2, p2_sh2 (show w ≤ 15 by omega)]
      apply Int32.toBitVec_inj.mp
      apply BitVec.eq_of_toNat_eq
      have hb : 2 ^ n ≤ 2 ^ 6 := Nat.pow_le_pow_right (by omega) hn
      have hw2 : 2 ^ w < 2 ^ n := Nat.pow_lt_pow_right (by omega) (by omega)
      have ho := Nat.or_lt_two_pow h1 hw2
      rw [Int32.toBitVec_or, BitVec.toNat_or, pk_tn (by omega), pk_tn (by omega), pk_tn (by omega)]
    · exact ⟨m2, h1, h2⟩
theorem nbO_lt {E : Nat → Nat → Nat} {n : Nat} (hn : n ≤ 6) {S : Int32} : ∀ v, v ≤ n → ∃ m2, m2 < 2 ^ n ∧ nbO (fjE E) n S v = nI m2
  | 0, _ => ⟨0, Nat.two_pow_pos n, rfl⟩
  | v + 1, hv => by
    obtain ⟨m2, h1, h2⟩ := nbO_lt (E := E) hn (S := S) v (by omega)
    exact nb_lt hn h2 h1 n (Nat.le_refl _)
theorem gRe_lt {E : Nat → Nat → Nat} {n : Nat} (hn : n ≤ 6) (h1 : 1 ≤ n) : ∀ r, ∃ m2, m2 < 2 ^ n ∧ gRe (fjE E) n r = nI m2
  | 0 => ⟨1, by have := Nat.pow_le_pow_right (n := 2) (by omega) h1; omega, rfl⟩
  | r + 1 => by
    obtain ⟨a, a1, a2⟩ := gRe_lt (E := E) hn h1 r
    obtain ⟨b, b1, b2⟩ := nbO_lt (E := E) hn (S := gRe (fjE E) n r) n (Nat.le_refl _)
    refine ⟨a ||| b, Nat.or_lt_two_pow a1 b1, ?_⟩
    show gRe (fjE E) n r ||| nbO (fjE E) n (gRe (fjE E) n r) n = _
    rw [b2, a2]
    apply Int32.toBitVec_inj.mp
    apply BitVec.eq_of_toNat_eq
    have hb : 2 ^ n ≤ 2 ^ 6 := Nat.pow_le_pow_right (by omega) hn
    have ho := Nat.or_lt_two_pow a1 b1
    rw [Int32.toBitVec_or, BitVec.toNat_or, pk_tn (by omega), pk_tn (by omega), pk_tn (by omega)]
theorem full_all : (List.range 7).all (fun n => (List.range (2 ^ n)).all fun m => (decide (nI m = (1 <<< (nI n &&& 31)) - 1)) == ((List.range n).all fun v => bitI (nI m) v)) = true := by decide +kernel
theorem full_iff {n m : Nat} (hn : n ≤ 6) (hm : m < 2 ^ n) : nI m = (1 <<< (nI n &&& 31)) - 1 ↔ ∀ v, v < n → bitI (nI m) v = true := by
  have h1 := List.all_eq_true.mp full_all n (List.mem_range.mpr (by omega))
  have h2 := eq_of_beq (List.all_eq_true.mp h1 m (List.mem_range.mpr hm))
  rw [← decide_eq_true_iff (p := nI m = (1 <<< (nI n &&& 31)) - 1), h2, List.all_eq_true]
  exact ⟨fun q v hv => q v (List.mem_range.mpr hv), fun q v hv => q v (List.mem_range.mp hv)⟩
/-- the class's isConnected -/
theorem gConn_iff {n : Nat} {E : Nat → Nat → Nat} (hG : Gr n E) (h2 : 2 ≤ n) : gConn (fjE E) n = true ↔ Conn n E := by
  have hE := hG.2.2.2.2
  have hn := hG.1
  rw [← lvl_end hG.2.1 (r := 0) (k := n - 1) (by omega) (gRe_lvl hE hn (by omega) (n - 1)) (by omega)]
  unfold gConn
  rw [decide_eq_true h2, Bool.true_and, decide_eq_true_eq]
  obtain ⟨m, hm, he⟩ := gRe_lt (E := E) hn (show 1 ≤ n by omega) (n - 1)
  rw [he]
  exact full_iff hn hm
/-- the law's isWhole -/
theorem lwS_iff {E : Nat → Nat → Nat} {a : Nat} {q : Nat → Bool} (hE0 : E a a = 0) : ∀ m x, lwS E a q m x = true ↔ q x = true ∨ (x < m ∧ q a = true ∧ 0 < E a x)
  | 0, x => by
    show q x = true ↔ _
    exact ⟨Or.inl, fun h => h.elim id fun h => absurd h.1 (Nat.not_lt_zero _)⟩
  | m + 1, x => by
    show bup _ m _ x = true ↔ _
    unfold bup
    have ih := lwS_iff (q := q) hE0 m
    have ha : lwS E a q m a = true ↔ q a = true := by
      rw [ih a]
      exact ⟨fun h => h.elim id fun h => h.2.1, Or.inl⟩
    by_cases hx : x = m
    · subst hx
      rw [if_pos rfl, Bool.or_eq_true, ih x, Bool.and_eq_true, ha, decide_eq_true_eq]
      constructor
      · rintro ((h | h) | h)
        · exact Or.inl h
        · exact absurd h.1 (Nat.lt_irrefl _)
        · exact Or.inr ⟨by omega, h.1, h.2⟩
      · rintro (h | h)
        · exact Or.inl (Or.inl h)
        · exact Or.inr ⟨h.2.1, h.2.2⟩
    · rw [if_neg hx, ih x]
      constructor
      · rintro (h | h)
        · exact Or.inl h
        · exact Or.inr ⟨by omega, h.2⟩
      · rintro (h | h)
        · exact Or.inl h
        · exact Or.inr ⟨by omega, h.2⟩
theorem lwK_sub {n : Nat} {E : Nat → Nat → Nat} (hG : Gr n E) {q : Nat → Bool} : ∀ a, (∀ x, q x = true → lwK E q a x = true) ∧ (∀ u x, u < a → x < 6 → q u = true → 0 < E u x → lwK E q a x = true) ∧ ∀ S : Nat → Bool, (∀ x, q x = true → S x = true) → (∀ u x, S u = true → 0 < E u x → S x = true) → ∀ x, lwK E q a x = true → S x = true
  | 0 => ⟨fun x h => h, fun u x h => absurd h (Nat.not_lt_zero _), fun S h1 _ x h => h1 x h⟩
  | a + 1 => by
    obtain ⟨i1, i2, i3⟩ := lwK_sub hG (q := q) a
    have hi := lwS_iff (E := E) (a := a) (q := lwK E q a) (hG.2.2.1 a) 6
    refine ⟨fun x h => (hi x).mpr (Or.inl (i1 x h)), fun u x hu hx hq hE => ?_, fun S h1 h2 x h => ?_⟩
    · by_cases e : u = a
      · subst e; exact (hi x).mpr (Or.inr ⟨hx, i1 u hq, hE⟩)
      · exact (hi x).mpr (Or.inl (i2 u x (by omega) hx hq hE))
    · rcases (hi x).mp h with h | h
      · exact i3 S h1 h2 x h
      · exact h2 a x (i3 S h1 h2 a h.2.1) h.2.2
theorem lwT_lvl {n : Nat} {E : Nat → Nat → Nat} (hG : Gr n E) {z : Nat} (hz : z < n) : ∀ t, Lvl n E z t (lwT E (fun j9 => decide (j9 = z)) t)
  | 0 => lvl_0 hz fun v _ => decide_eq_true_iff
  | t + 1 => by
    have ih := lwT_lvl hG hz t
    obtain ⟨i1, i2, i3⟩ := lwK_sub hG (q := lwT E (fun j9 => decide (j9 = z)) t) 6
    have hn := hG.1
    refine lvl_step ih hz (fun v _ h => i1 v h) (fun v w hv hw h hE => i2 v w (by omega) (by omega) h hE) fun S hS hS0 v hv h => ?_
    have h5 := i3 (fun x => if x < n then S x else true) (fun x hx => by
      show (if x < n then S x else true) = true
      split
      next q => exact ih.2.1 S hS hS0 x q hx
      next q => rfl) (fun u x hu hE => by
      have hu6 : u < n := by
        rcases Nat.lt_or_ge u n with q | q
        · exact q
        · rw [hG.2.2.2.1 u x q] at hE; exact absurd hE (Nat.lt_irrefl _)
      have hx6 : x < n := by
        rcases Nat.lt_or_ge x n with q | q
        · exact q
        · rw [hG.2.1, hG.2.2.2.1 x u q] at hE; exact absurd hE (Nat.lt_irrefl _)
      have hu' : (if u < n then S u else true) = true := hu
      show (if x < n then S x else true) = true
      rw [if_pos hu6] at hu'
      rw [if_pos hx6]
      exact hS u x hu6 hx6 hu' hE) v h
    have h6 : (if v < n then S v else true) = true := h5
    rw [if_pos hv] at h6
    exact h6
theorem lwV_iff {n : Nat} {E : Nat → Nat → Nat} (hG : Gr n E) (h2 : 2 ≤ n) {z : Nat} (hz : z < n) : lwV E n z = true ↔ Conn n E := by
  have hn := hG.1
  rw [← lvl_end hG.2.1 (k := 6) hz (lwT_lvl hG hz 6) (by omega)]
  unfold lwV
  rw [Bool.and_eq_true, List.all_eq_true, decide_eq_true_eq]
  exact ⟨fun q v hv => q.1 v (List.mem_range.mpr hv), fun q => ⟨fun v hv => q v (List.mem_range.mp hv), by omega⟩⟩
