/-! all that the law asks of the reduced row -/
theorem and1_01 (x : Int32) : (x &&& 1) = 0 ∨ (x &&& 1) = 1 := by
  rw [pk_and x (m := 1) 1 (by decide)]
  rcases (show x.toBitVec.toNat % 2 ^ 1 = 0 ∨ x.toBitVec.toNat % 2 ^ 1 = 1 by omega) with h | h <;> rw [h]
  · exact Or.inl rfl
  · exact Or.inr rfl
theorem bit_z {s m : Nat} : ((nI s >>> (nI m &&& 31)) &&& 1) = 0 ↔ bitI (nI s) m = false := by
  unfold bitI
  rw [decide_eq_false_iff_not]
  rcases and1_01 (nI s >>> (nI m &&& 31)) with h | h
  · rw [h]; exact ⟨fun _ => by decide, fun _ => rfl⟩
  · rw [h]; exact ⟨fun q => absurd q (by decide), fun q => absurd rfl q⟩
theorem bit_all : (List.range 7).all (fun n => (List.range (2 ^ n)).all fun s => s == 0 || (List.range n).any fun v => bitI (nI s) v) = true := by decide +kernel
theorem bit_ex {n s : Nat} (hn : n ≤ 6) (h0 : 0 < s) (hs : s < 2 ^ n) : ∃ v, v < n ∧ bitI (nI s) v = true := by
  have h1 := List.all_eq_true.mp bit_all n (List.mem_range.mpr (by omega))
  have h2 := List.all_eq_true.mp h1 s (List.mem_range.mpr hs)
  rw [Bool.or_eq_true] at h2
  rcases h2 with q | q
  · exact absurd (eq_of_beq q) (by omega)
  · obtain ⟨v, hv, hb⟩ := List.any_eq_true.mp q
    exact ⟨v, List.mem_range.mp hv, hb⟩
theorem irF_e {E : Nat → Nat → Nat} {rv : Nat → Int32} {s a : Nat} {x : Int} (hx : rv a = iI x) : ∀ m, irF E rv s a m = iI (x - ((sumN (fun w => if bitI (nI s) w = false then E a w else 0) m : Nat) : Int))
  | 0 => by
    show rv a = iI (x - ((0 : Nat) : Int))
    rw [hx]; congr 1; omega
  | m + 1 => by
    have ih := irF_e (E := E) (s := s) hx m
    show irF E rv s a m - (if ((nI s >>> (nI m &&& 31)) &&& 1) = 0 then EN E a m else 0) = iI (x - ((sumN (fun w => if bitI (nI s) w = false then E a w else 0) m + (if bitI (nI s) m = false then E a m else 0) : Nat) : Int))
    rw [ih]
    by_cases h : bitI (nI s) m = false
    · rw [if_pos (bit_z.mpr h), if_pos h]
      show _ - nI (E a m) = _
      rw [← iI_n (E a m), iI_sub]
      congr 1; omega
    · rw [if_neg (fun q => h (bit_z.mp q)), if_neg h, Int32.sub_zero]
      congr 1
theorem irB_iff {E : Nat → Nat → Nat} {rv : Nat → Int32} {n s : Nat} : ∀ a, irB E rv n s a = true ↔ ∃ b, b < a ∧ bitI (nI s) b = true ∧ irF E rv s b n < 0
  | 0 => ⟨(fun h => absurd h Bool.false_ne_true), fun ⟨b, h, _⟩ => absurd h (Nat.not_lt_zero _)⟩
  | a + 1 => by
    have ih := irB_iff (E := E) (rv := rv) (n := n) (s := s) a
    show (irB E rv n s a || (bitI (nI s) a && decide (irF E rv s a n < 0))) = true ↔ _
    rw [Bool.or_eq_true, ih, Bool.and_eq_true, decide_eq_true_eq]
    constructor
    · rintro (⟨b, h1, h2⟩ | h)
      · exact ⟨b, by omega, h2⟩
      · exact ⟨a, by omega, h⟩
    · rintro ⟨b, h1, h2⟩
      by_cases e : b = a
      · subst e; exact Or.inr h2
      · exact Or.inl ⟨b, by omega, h2⟩
theorem rdS_e {rv dl : Nat → Int32} {a d : Nat → Int} : ∀ n, (∀ v, v < n → rv v = iI (a v)) → (∀ v, v < n → dl v = iI (d v)) → rdS rv dl n = iI (sI a n - sI d n)
  | 0, _, _ => by
    show (0 : Int32) = iI (0 - 0)
    rfl
  | n + 1, h1, h2 => by
    show rdS rv dl n + (rv n - dl n) = iI (sI a n + a n - (sI d n + d n))
    rw [rdS_e n (fun v hv => h1 v (by omega)) (fun v hv => h2 v (by omega)), h1 n (by omega), h2 n (by omega), iI_sub, iI_add]
    congr 1; omega
theorem eqf_eqv {n : Nat} {E : Nat → Nat → Nat} {z : Nat} {a b : Nat → Int} (h : Eqf n E a b) (t : Int) : Eqv n E z (fun v => t + a v) (fun v => t + b v) := by
  obtain ⟨f, hf⟩ := h
  refine ⟨fun j => f j - f z, by show f z - f z = 0; omega, fun v hv _ => ?_⟩
  rw [Lap_sub]
  have h0 : Lap E (fun _ => f z) v = 0 := sI_0 fun w _ => by
    show (E v w : Int) * (f z - f z) = 0
    rw [Int.sub_self, Int.mul_zero]
  rw [h0]
  have := hf v hv
  show t + a v - (t + b v) = Lap E f v - 0
  omega
theorem red_law {n : Nat} {E : Nat → Nat → Nat} (hG : Gr n E) (hC : Conn n E) (hn2 : 2 ≤ n) {z : Nat} (hz : z < n) {fo : Nat → Int32} {d : Nat → Int} (hd : ∀ v, v < 6 → fo v = iI (d v)) (hb : ∀ v, v < n → -700 ≤ d v ∧ d v ≤ 700) (hd0 : ∀ v, n ≤ v → d v = 0) {F : Nat} (hF : 210000 ≤ F) :
    ∃ rv : Nat → Int32, (∀ q v, v < n → rdI n z (fdE E) fo (fdR n z (fjE E) (fdE E) (msI (fdE E) fo q n)).1 v = rv v) ∧ (∀ v, v < n → ¬ v = z → ¬ rv v < 0) ∧
    (∀ s, 0 < s → s < 2 ^ n → ¬ ((nI s >>> (nI z &&& 31)) &&& 1) = 1 → irB E rv n s n = true) ∧ rdS rv fo n = 0 ∧
    hiO (cnL E z (lsA E n z F (smA z n fo n, (fun _ => 0), 0)).1) n = none ∧ hiO (cnL E z (lsA E n z F (smA z n (unA rv n) n, (fun _ => 0), 0)).1) n = none ∧
    ∀ v, v < n → ¬ v = z → (lsA E n z F (smA z n fo n, (fun _ => 0), 0)).1 v = (lsA E n z F (smA z n (unA rv n) n, (fun _ => 0), 0)).1 v := by
  have hn := hG.1
  have hd15 := fun v => dg_le hG v
  obtain ⟨g, hR, hlt, -⟩ := miss_go hG hC hn2 hz (fo := fo) (q := fun _ => 0) (d := d) fun v hv => ⟨hd v (by omega), hb v hv⟩
  have hrdv : ∀ v, v < n → v ≠ z → 0 ≤ rdv n E z (sI d n) g v ∧ rdv n E z (sI d n) g v ≤ 14 ∧ rdv n E z (sI d n) g v = (dg E v : Int) - 1 - g v := fun v hv hvz => by
    have h1 : rdv n E z (sI d n) g v = (dg E v : Int) - 1 - g v := if_neg hvz
    have := hlt v hv hvz
    have := hd15 v
    omega
  have hEq := rdv_eqf hG hz (D := d) hR.2.2
  refine ⟨fun v => iI (rdv n E z (sI d n) g v), fun q v hv => ?_, fun v hv hvz => ?_, fun s hs0 hs hsz => ?_, ?_, ?_⟩
  · obtain ⟨g1, hR1, -, hat⟩ := miss_go hG hC hn2 hz (fo := fo) (q := q) (d := d) fun v hv => ⟨hd v (by omega), hb v hv⟩
    rw [rdI_e hG hz hd hd0 (f := (fdR n z (fjE E) (fdE E) (msI (fdE E) fo q n)).1) (g := g1) (fun w hw hwz => by rw [hat w (by omega), if_neg hwz]) hv]
    have hsame := rep_one hG hC hn2 hz hR1 hR (Eqv.refl n E z _)
    by_cases hvz : v = z
    · rw [hvz, rdv_cg hsame]
    · congr 1
      unfold rdv
      rw [if_neg hvz, if_neg hvz, hsame v hv hvz]
  · have := hrdv v hv hvz
    show ¬ iI _ < 0
    rw [iI_lt0 (by omega) (by omega)]; omega
  · obtain ⟨v0, hv0, hb0⟩ := bit_ex hn hs0 hs
    have hbz : bitI (nI s) z = false := decide_eq_false hsz
    obtain ⟨v, hv6, hSv, hle⟩ := hR.2.1 (fun w => bitI (nI s) w && decide (w < n)) (by show (bitI (nI s) z && decide (z < n)) = false; rw [hbz]; rfl) ⟨v0, by omega, by show (bitI (nI s) v0 && decide (v0 < n)) = true; rw [hb0, decide_eq_true hv0]; rfl⟩
    have hSv' : (bitI (nI s) v && decide (v < n)) = true := hSv
    rw [Bool.and_eq_true, decide_eq_true_eq] at hSv'
    obtain ⟨hbv, hvn⟩ := hSv'
    have hvz : v ≠ z := fun q => by rw [q, hbz] at hbv; cases hbv
    refine (irB_iff n).mpr ⟨v, hvn, hbv, ?_⟩
    have hr := hrdv v hvn hvz
    rw [irF_e (x := rdv n E z (sI d n) g v) rfl n]
    have hsum : sumN (fun w => if bitI (nI s) w = false then E v w else 0) n + dgS E (fun w => bitI (nI s) w && decide (w < n)) v = dg E v := by
      have h1 := dgS_add E (fun w => bitI (nI s) w && decide (w < n)) v
      have h2 : sumN (fun w => if (bitI (nI s) w && decide (w < n)) = false then E v w else 0) 6 = sumN (fun w => if bitI (nI s) w = false then E v w else 0) n := by
        rw [sumN_cut6 hn (fun j hj _ => by
          show (if _ then E v j else 0) = 0
          rw [hG.2.1, hG.2.2.2.1 j v hj]; exact ite_self 0)]
        exact sumN_eq fun w hw => by
          show (if (bitI (nI s) w && decide (w < n)) = false then E v w else 0) = _
          rw [decide_eq_true hw, Bool.and_true]
      rw [h2] at h1
      omega
    have h18 := hd15 v
    rw [iI_lt0 (by omega) (by omega)]
    have hle' : dgS E (fun w => bitI (nI s) w && decide (w < n)) v ≤ g v := hle
    omega
  · rw [rdS_e (a := rdv n E z (sI d n) g) (d := d) n (fun v _ => rfl) (fun v hv => hd v (by omega)), ← hEq.sum hG, Int.sub_self]
    rfl
  · obtain ⟨g1, b1, b2, b3⟩ := alike_go hG hC hz (f := fo) (d := d) (fun v hv _ => ⟨hd v (by omega), hb v hv⟩) hF
    obtain ⟨g2, c1, c2, c3⟩ := alike_go hG hC hz (f := unA (fun v => iI (rdv n E z (sI d n) g v)) n) (d := rdv n E z (sI d n) g) (fun v hv hvz => ⟨unA_at hv, by have := hrdv v hv hvz; omega, by have := hrdv v hv hvz; omega⟩) hF
    refine ⟨b3, c3, fun v hv hvz => ?_⟩
    rw [b2 v hv hvz, c2 v hv hvz, rep_one hG hC hn2 hz b1 c1 (eqf_eqv hEq 2000) v hv hvz]
