theorem dL_settles_0 : decode cL_settles 0 = .ok (.iconst 0, 1) := by decide +kernel
theorem dL_settles_1 : decode cL_settles 1 = .ok (.istore_n 3, 1) := by decide +kernel
theorem dL_settles_2 : decode cL_settles 2 = .ok (.aload_n 0, 1) := by decide +kernel
theorem dL_settles_3 : decode cL_settles 3 = .ok (.getfield 167, 3) := by decide +kernel
theorem dL_settles_6 : decode cL_settles 6 = .ok (.iconst 1, 1) := by decide +kernel
theorem dL_settles_7 : decode cL_settles 7 = .ok (.isub, 1) := by decide +kernel
theorem dL_settles_8 : decode cL_settles 8 = .ok (.istore 4, 2) := by decide +kernel
theorem dL_settles_10 : decode cL_settles 10 = .ok (.iload 4, 2) := by decide +kernel
theorem dL_settles_12 : decode cL_settles 12 = .ok (.ifCond .lt 106, 3) := by decide +kernel
theorem dL_settles_118 : decode cL_settles 118 = .ok (.iload_n 3, 1) := by decide +kernel
theorem dL_settles_119 : decode cL_settles 119 = .ok (.ireturn, 1) := by decide +kernel
theorem dL_settles_15 : decode cL_settles 15 = .ok (.iload 4, 2) := by decide +kernel
theorem dL_settles_17 : decode cL_settles 17 = .ok (.aload_n 0, 1) := by decide +kernel
theorem dL_settles_18 : decode cL_settles 18 = .ok (.getfield 164, 3) := by decide +kernel
theorem dL_settles_21 : decode cL_settles 21 = .ok (.if_icmp .eq 91, 3) := by decide +kernel
theorem dL_settles_112 : decode cL_settles 112 = .ok (.iinc 4 (-1), 3) := by decide +kernel
theorem dL_settles_115 : decode cL_settles 115 = .ok (.goto (-105), 3) := by decide +kernel
theorem dL_settles_24 : decode cL_settles 24 = .ok (.aload_n 0, 1) := by decide +kernel
theorem dL_settles_25 : decode cL_settles 25 = .ok (.iload 4, 2) := by decide +kernel
theorem dL_settles_27 : decode cL_settles 27 = .ok (.invokevirtual 170, 3) := by decide +kernel
theorem dL_settles_30 : decode cL_settles 30 = .ok (.ifCond .eq 82, 3) := by decide +kernel
theorem dL_settles_33 : decode cL_settles 33 = .ok (.aload_n 1, 1) := by decide +kernel
theorem dL_settles_34 : decode cL_settles 34 = .ok (.iload 4, 2) := by decide +kernel
theorem dL_settles_36 : decode cL_settles 36 = .ok (.iaload, 1) := by decide +kernel
theorem dL_settles_37 : decode cL_settles 37 = .ok (.aload_n 0, 1) := by decide +kernel
theorem dL_settles_38 : decode cL_settles 38 = .ok (.iload 4, 2) := by decide +kernel
theorem dL_settles_40 : decode cL_settles 40 = .ok (.invokevirtual 170, 3) := by decide +kernel
theorem dL_settles_43 : decode cL_settles 43 = .ok (.if_icmp .ge 6, 3) := by decide +kernel
theorem dL_settles_49 : decode cL_settles 49 = .ok (.aload_n 1, 1) := by decide +kernel
theorem dL_settles_50 : decode cL_settles 50 = .ok (.iload 4, 2) := by decide +kernel
theorem dL_settles_52 : decode cL_settles 52 = .ok (.dup2, 1) := by decide +kernel
theorem dL_settles_53 : decode cL_settles 53 = .ok (.iaload, 1) := by decide +kernel
theorem dL_settles_54 : decode cL_settles 54 = .ok (.aload_n 0, 1) := by decide +kernel
theorem dL_settles_55 : decode cL_settles 55 = .ok (.iload 4, 2) := by decide +kernel
theorem dL_settles_57 : decode cL_settles 57 = .ok (.invokevirtual 170, 3) := by decide +kernel
theorem dL_settles_60 : decode cL_settles 60 = .ok (.isub, 1) := by decide +kernel
theorem dL_settles_61 : decode cL_settles 61 = .ok (.iastore, 1) := by decide +kernel
theorem dL_settles_62 : decode cL_settles 62 = .ok (.iconst 0, 1) := by decide +kernel
theorem dL_settles_63 : decode cL_settles 63 = .ok (.istore 5, 2) := by decide +kernel
theorem dL_settles_65 : decode cL_settles 65 = .ok (.iload 5, 2) := by decide +kernel
theorem dL_settles_67 : decode cL_settles 67 = .ok (.bipush 6, 2) := by decide +kernel
theorem dL_settles_69 : decode cL_settles 69 = .ok (.if_icmp .ge 26, 3) := by decide +kernel
theorem dL_settles_95 : decode cL_settles 95 = .ok (.aload_n 2, 1) := by decide +kernel
theorem dL_settles_96 : decode cL_settles 96 = .ok (.iload 4, 2) := by decide +kernel
theorem dL_settles_98 : decode cL_settles 98 = .ok (.dup2, 1) := by decide +kernel
theorem dL_settles_99 : decode cL_settles 99 = .ok (.iaload, 1) := by decide +kernel
theorem dL_settles_100 : decode cL_settles 100 = .ok (.iconst 1, 1) := by decide +kernel
theorem dL_settles_101 : decode cL_settles 101 = .ok (.iadd, 1) := by decide +kernel
theorem dL_settles_102 : decode cL_settles 102 = .ok (.iastore, 1) := by decide +kernel
theorem dL_settles_103 : decode cL_settles 103 = .ok (.iinc 3 1, 3) := by decide +kernel
theorem dL_settles_106 : decode cL_settles 106 = .ok (.aload_n 0, 1) := by decide +kernel
theorem dL_settles_107 : decode cL_settles 107 = .ok (.getfield 167, 3) := by decide +kernel
theorem dL_settles_110 : decode cL_settles 110 = .ok (.istore 4, 2) := by decide +kernel
theorem dL_settles_72 : decode cL_settles 72 = .ok (.aload_n 1, 1) := by decide +kernel
theorem dL_settles_73 : decode cL_settles 73 = .ok (.iload 5, 2) := by decide +kernel
theorem dL_settles_75 : decode cL_settles 75 = .ok (.dup2, 1) := by decide +kernel
theorem dL_settles_76 : decode cL_settles 76 = .ok (.iaload, 1) := by decide +kernel
theorem dL_settles_77 : decode cL_settles 77 = .ok (.aload_n 0, 1) := by decide +kernel
theorem dL_settles_78 : decode cL_settles 78 = .ok (.getfield 9, 3) := by decide +kernel
theorem dL_settles_81 : decode cL_settles 81 = .ok (.iload 4, 2) := by decide +kernel
theorem dL_settles_83 : decode cL_settles 83 = .ok (.aaload, 1) := by decide +kernel
theorem dL_settles_84 : decode cL_settles 84 = .ok (.iload 5, 2) := by decide +kernel
theorem dL_settles_86 : decode cL_settles 86 = .ok (.iaload, 1) := by decide +kernel
theorem dL_settles_87 : decode cL_settles 87 = .ok (.iadd, 1) := by decide +kernel
theorem dL_settles_88 : decode cL_settles 88 = .ok (.iastore, 1) := by decide +kernel
theorem dL_settles_89 : decode cL_settles 89 = .ok (.iinc 5 1, 3) := by decide +kernel
theorem dL_settles_92 : decode cL_settles 92 = .ok (.goto (-27), 3) := by decide +kernel
theorem dL_settles_46 : decode cL_settles 46 = .ok (.goto 66, 3) := by decide +kernel
/-- whether k can topple; the highest that can; it topples; so many times -/
def cnL (E : Nat → Nat → Nat) (z : Nat) (g : Nat → Int32) (a : Nat) : Bool := decide (¬ a = z) && (decide (¬ dg E a = 0) && decide (¬ g a < nI (dg E a)))
def hiO (P : Nat → Bool) : Nat → Option Nat
  | 0 => none
  | j + 1 => if P j = true then some j else hiO P j
def tlF (E : Nat → Nat → Nat) (a : Nat) (g : Nat → Int32) : Nat → Nat → Int32
  | 0 => g
  | m + 1 => upd (tlF E a g m) m (tlF E a g m m + EN E a m)
def lsT (E : Nat → Nat → Nat) (a : Nat) (S : (Nat → Int32) × (Nat → Int32) × Int32) : (Nat → Int32) × (Nat → Int32) × Int32 := (tlF E a (upd S.1 a (S.1 a - nI (dg E a))) 6, upd S.2.1 a (S.2.1 a + 1), S.2.2 + 1)
def lsA (E : Nat → Nat → Nat) (n z : Nat) : Nat → (Nat → Int32) × (Nat → Int32) × Int32 → (Nat → Int32) × (Nat → Int32) × Int32
  | 0, S => S
  | r + 1, S => match hiO (cnL E z S.1) n with
    | some a => lsA E n z r (lsT E a S)
    | none => S
theorem hiO_none {P : Nat → Bool} : ∀ {n : Nat}, hiO P n = none ↔ ∀ a, a < n → P a = false
  | 0 => ⟨fun _ a h => absurd h (Nat.not_lt_zero _), fun _ => rfl⟩
  | n + 1 => by
    unfold hiO
    by_cases h : P n = true
    · rw [if_pos h]
      exact ⟨fun q => (by cases q), fun q => (by have := q n (by omega); rw [h] at this; cases this)⟩
    · rw [if_neg h, hiO_none]
      constructor
      · intro q a ha
        by_cases e : a = n
        · rw [e]; exact Bool.eq_false_iff.mpr h
        · exact q a (by omega)
      · exact fun q a ha => q a (by omega)
theorem hiO_some {P : Nat → Bool} : ∀ {n a : Nat}, a < n → P a = true → (∀ b, a < b → b < n → P b = false) → hiO P n = some a
  | 0, a, h, _, _ => absurd h (Nat.not_lt_zero _)
  | n + 1, a, h, hP, hq => by
    unfold hiO
    by_cases e : a = n
    · subst e; rw [if_pos hP]
    · rw [if_neg (by rw [hq n (by omega) (by omega)]; decide)]
      exact hiO_some (by omega) hP fun b h1 h2 => hq b h1 (by omega)
theorem lsA_s {E : Nat → Nat → Nat} {n z r q a : Nat} {S T : (Nat → Int32) × (Nat → Int32) × Int32} (hr : r = q + 1) (h : lsA E n z r S = T) (h1 : hiO (cnL E z S.1) n = some a) : lsA E n z q (lsT E a S) = T := by
  subst hr
  rw [← h]
  show _ = (match hiO (cnL E z S.1) n with | some a => lsA E n z q (lsT E a S) | none => S)
  rw [h1]
theorem lsA_e {E : Nat → Nat → Nat} {n z r : Nat} {S T : (Nat → Int32) × (Nat → Int32) × Int32} (h : lsA E n z r S = T) (h1 : hiO (cnL E z S.1) n = none) : S = T := by
  rw [← h]
  cases r with
  | zero => rfl
  | succ q =>
    show _ = (match hiO (cnL E z S.1) n with | some a => lsA E n z q (lsT E a S) | none => S)
    rw [h1]
/-- one that can topple has fuel: at the end none can -/
theorem lsA_f {E : Nat → Nat → Nat} {n z r a : Nat} {S T : (Nat → Int32) × (Nat → Int32) × Int32} (h : lsA E n z r S = T) (h1 : hiO (cnL E z S.1) n = some a) (hT : hiO (cnL E z T.1) n = none) : 0 < r := by
  cases r with
  | zero =>
    have : S = T := h
    rw [← this, h1] at hT
    cases hT
  | succ q => omega
theorem cnL_y {E : Nat → Nat → Nat} {z : Nat} {g : Nat → Int32} {a : Nat} (h1 : ¬ a = z) (h2 : ¬ nI (dg E a) = 0) (h3 : ¬ g a < nI (dg E a)) : cnL E z g a = true := by
  unfold cnL
  rw [decide_eq_true h1, decide_eq_true (show ¬ dg E a = 0 from fun q => h2 (by rw [q]; try rfl)), decide_eq_true h3]; rfl
theorem cnL_1 {E : Nat → Nat → Nat} {z : Nat} {g : Nat → Int32} {a : Nat} (h1 : a = z) : cnL E z g a = false := by
  unfold cnL
  rw [show decide (¬ a = z) = false from decide_eq_false (fun q => q h1)]; rfl
theorem cnL_2 {E : Nat → Nat → Nat} {z : Nat} {g : Nat → Int32} {a : Nat} (hd : dg E a < 2 ^ 31) (h1 : nI (dg E a) = 0) : cnL E z g a = false := by
  unfold cnL
  rw [show decide (¬ dg E a = 0) = false from decide_eq_false (fun q => nI_ne0 (Nat.pos_of_ne_zero q) hd h1), Bool.false_and, Bool.and_false]
theorem cnL_3 {E : Nat → Nat → Nat} {z : Nat} {g : Nat → Int32} {a : Nat} (h1 : g a < nI (dg E a)) : cnL E z g a = false := by
  unfold cnL
  rw [show decide (¬ g a < nI (dg E a)) = false from decide_eq_false (fun q => q h1), Bool.and_false, Bool.and_false]
theorem up_lt {n j : Nat} (hj : j ≤ n) (hn : n ≤ 6) (h : ¬ (nI j - 1 : Int32) < 0) : 0 < j := by
  rcases Nat.eq_zero_or_pos j with q | q
  · subst q; exact absurd (by decide) h
  · exact q
theorem up_0 {n j : Nat} (hj : j ≤ n) (hn : n ≤ 6) (h : (nI j - 1 : Int32) < 0) : j = 0 := by
  rcases Nat.eq_zero_or_pos j with q | q
  · exact q
  · rw [show j = (j - 1) + 1 by omega, nI_pred] at h
    exact absurd h (nI_pos (by omega))
theorem up_e {j : Nat} (h : 0 < j) : (nI j - 1 : Int32) = nI (j - 1) := by
  rw [show j = (j - 1) + 1 by omega, nI_pred]; rfl
theorem up_m (a : Int32) : a + (-1) = a - 1 := by rw [Int32.sub_eq_add_neg]
theorem up_q {P : Nat → Bool} {n j : Nat} (hq : ∀ b, j ≤ b → b < n → P b = false) (hj : 0 < j) (h : P (j - 1) = false) : ∀ b, j - 1 ≤ b → b < n → P b = false := fun b h1 h2 => by
  by_cases e : b = j - 1
  · rw [e]; exact h
  · exact hq b (by omega) h2
theorem dg18 {E : Nat → Nat → Nat} (hE3 : ∀ i j, E i j ≤ 3) (v : Nat) : dg E v ≤ 18 := by
  have h0 := hE3 v 0; have h1 := hE3 v 1; have h2 := hE3 v 2; have h3 := hE3 v 3; have h4 := hE3 v 4; have h5 := hE3 v 5
  show 0 + E v 0 + E v 1 + E v 2 + E v 3 + E v 4 + E v 5 ≤ 18
  omega
set_option maxRecDepth 100000 in
set_option maxHeartbeats 400000 in
theorem c_L_settles {l : Launch} {D : va_G} {k : Nat → ClassId} (lo : Nat) (eo : Nat) (e1 : Nat) (e2 : Nat) (e3 : Nat) (e4 : Nat) (e5 : Nat) (er : Nat → Nat) (E : Nat → Nat → Nat) (n : Nat) (z : Nat) (sw : Int32) (pl : Nat) (oft : Nat) (F : Nat) (f : Nat → Int32) (f2 : Nat → Int32) (hn : n ≤ 6) (hz : z < n) (hE3 : ∀ i j, E i j ≤ 3) (hF : hiO (cnL E z (lsA E n z F (f, f2, 0)).1) n = none) : CM l D k yL_settles cL_settles 6 (some .int)  1 23 [.ref lo, .ref pl, .ref oft] [(lo, .inr (13, [.ref eo, .ref e1, .ref e2, .ref e3, .ref e4, .ref e5, .int (nI n), .int (nI z), .int sw])), (eo, aR k 3 6 (fun i9 => if i9 < 6 then some (er i9) else none)), ((er 0), aI k 6 (EN E 0)), ((er 1), aI k 6 (EN E 1)), ((er 2), aI k 6 (EN E 2)), ((er 3), aI k 6 (EN E 3)), ((er 4), aI k 6 (EN E 4)), ((er 5), aI k 6 (EN E 5)), (pl, aI k 6 f), (oft, aI k 6 f2)] (is1 (some (.int ((lsA E n z F (f, f2, 0)).2.2))) [(lo, .inr (13, [.ref eo, .ref e1, .ref e2, .ref e3, .ref e4, .ref e5, .int (nI n), .int (nI z), .int sw])), (eo, aR k 3 6 (fun i9 => if i9 < 6 then some (er i9) else none)), ((er 0), aI k 6 (EN E 0)), ((er 1), aI k 6 (EN E 1)), ((er 2), aI k 6 (EN E 2)), ((er 3), aI k 6 (EN E 3)), ((er 4), aI k 6 (EN E 4)), ((er 5), aI k 6 (EN E 5)), (pl, aI k 6 ((lsA E n z F (f, f2, 0)).1)), (oft, aI k 6 ((lsA E n z F (f, f2, 0)).2.1))]) 0 0 0 := by
  refine CM.of (lv0 := [(0, .ref lo), (1, .ref pl), (2, .ref oft)]) (by decide +kernel) (Nat.le_of_ble_eq_true rfl) rfl ?_
  intro p9 e9 s9 m9 bl9 me9 co9 C hr hlk hin had
  refine g_iconst (pc := 0) (v := 0) C (by decide) dL_settles_0 ?_
  refine g_istore_n (pc := 1) C [(3, .int 0), (0, .ref lo), (1, .ref pl), (2, .ref oft)] rfl dL_settles_1 (by decide) rfl ?_
  refine g_aload_n (pc := 2) C 1 rfl rfl dL_settles_2 ?_
  refine g_get (pc := 3) C (T := TXL) inXL 0 rfl rfl 6 (by decide) q_564 rfl rfl dL_settles_3 ?_
  refine g_iconst (pc := 6) (v := 1) C (by decide) dL_settles_6 ?_
  refine g_isub (pc := 7) C dL_settles_7 ?_
  refine g_istore (pc := 8) C [(4, .int ((nI n) - 1)), (3, .int 0), (0, .ref lo), (1, .ref pl), (2, .ref oft)] dL_settles_8 (by decide) rfl ?_
  have key_10 : ∀ (fuel : Nat) (r : Nat) (j : Nat) (S : (Nat → Int32) × (Nat → Int32) × Int32), r ≤ F → j ≤ n → lsA E n z (F - r) S = (lsA E n z F (f, f2, 0)) → (∀ b, j ≤ b → b < n → cnL E z S.1 b = false) → (F - r) * 7 + j < fuel → G p9 l e9 { frames := 1, cells := 0, slots := 0, locals := 23 } s9 m9 ([.ref lo, .ref pl, .ref oft] : List Value).toArray bl9 me9 co9 D 6 (va_A [(lo, .inr (13, [.ref eo, .ref e1, .ref e2, .ref e3, .ref e4, .ref e5, .int (nI n), .int (nI z), .int sw])), (eo, aR k 3 6 (fun i9 => if i9 < 6 then some (er i9) else none)), ((er 0), aI k 6 (EN E 0)), ((er 1), aI k 6 (EN E 1)), ((er 2), aI k 6 (EN E 2)), ((er 3), aI k 6 (EN E 3)), ((er 4), aI k 6 (EN E 4)), ((er 5), aI k 6 (EN E 5)), (pl, aI k 6 f), (oft, aI k 6 f2)] s9.heap.size) (QM bl9 D ([.ref lo, .ref pl, .ref oft] : List Value).toArray s9 [(lo, .inr (13, [.ref eo, .ref e1, .ref e2, .ref e3, .ref e4, .ref e5, .int (nI n), .int (nI z), .int sw])), (eo, aR k 3 6 (fun i9 => if i9 < 6 then some (er i9) else none)), ((er 0), aI k 6 (EN E 0)), ((er 1), aI k 6 (EN E 1)), ((er 2), aI k 6 (EN E 2)), ((er 3), aI k 6 (EN E 3)), ((er 4), aI k 6 (EN E 4)), ((er 5), aI k 6 (EN E 5)), (pl, aI k 6 f), (oft, aI k 6 f2)] (is1 (some (.int ((lsA E n z F (f, f2, 0)).2.2))) [(lo, .inr (13, [.ref eo, .ref e1, .ref e2, .ref e3, .ref e4, .ref e5, .int (nI n), .int (nI z), .int sw])), (eo, aR k 3 6 (fun i9 => if i9 < 6 then some (er i9) else none)), ((er 0), aI k 6 (EN E 0)), ((er 1), aI k 6 (EN E 1)), ((er 2), aI k 6 (EN E 2)), ((er 3), aI k 6 (EN E 3)), ((er 4), aI k 6 (EN E 4)), ((er 5), aI k 6 (EN E 5)), (pl, aI k 6 ((lsA E n z F (f, f2, 0)).1)), (oft, aI k 6 ((lsA E n z F (f, f2, 0)).2.1))]) 0 0 0) [(lo, .inr (13, [.ref eo, .ref e1, .ref e2, .ref e3, .ref e4, .ref e5, .int (nI n), .int (nI z), .int sw])), (eo, aR k 3 6 (fun i9 => if i9 < 6 then some (er i9) else none)), ((er 0), aI k 6 (EN E 0)), ((er 1), aI k 6 (EN E 1)), ((er 2), aI k 6 (EN E 2)), ((er 3), aI k 6 (EN E 3)), ((er 4), aI k 6 (EN E 4)), ((er 5), aI k 6 (EN E 5)), (pl, aI k 6 S.1), (oft, aI k 6 S.2.1)] [(0, .ref lo), (1, .ref pl), (2, .ref oft), (3, .int S.2.2), (4, .int (nI j - 1))] 0 0 0 10 [] := by
    intro fuel
    induction fuel with
    | zero => intro r j S hr1 hj hS hq hm; exact absurd hm (Nat.not_lt_zero _)
    | succ fuel ih =>
      intro r j S hr1 hj hS hq hm
      have ih_10 := ih
      refine g_iload (pc := 10) C 4 rfl dL_settles_10 ?_
      refine g_if_lt (pc := 12) C 118 (by decide) dL_settles_12 (fun c_12 => ?_) (fun c_12 => ?_)
      · have h9 := up_0 hj hn c_12
        refine g_iload_n (pc := 118) C 3 rfl rfl dL_settles_118 ?_
        refine G.fn ((lsA E n z F (f, f2, 0)).1) 8 [(lo, .inr (13, [.ref eo, .ref e1, .ref e2, .ref e3, .ref e4, .ref e5, .int (nI n), .int (nI z), .int sw])), (eo, aR k 3 6 (fun i9 => if i9 < 6 then some (er i9) else none)), ((er 0), aI k 6 (EN E 0)), ((er 1), aI k 6 (EN E 1)), ((er 2), aI k 6 (EN E 2)), ((er 3), aI k 6 (EN E 3)), ((er 4), aI k 6 (EN E 4)), ((er 5), aI k 6 (EN E 5)), (pl, aI k 6 ((lsA E n z F (f, f2, 0)).1)), (oft, aI k 6 S.2.1)] rfl (fun j hj => by { have hT : S = (lsA E n z F (f, f2, 0)) := lsA_e hS (hiO_none.mpr fun b hb => hq b (by omega) hb); rw [hT] }) rfl ?_
        refine G.fn ((lsA E n z F (f, f2, 0)).2.1) 9 [(lo, .inr (13, [.ref eo, .ref e1, .ref e2, .ref e3, .ref e4, .ref e5, .int (nI n), .int (nI z), .int sw])), (eo, aR k 3 6 (fun i9 => if i9 < 6 then some (er i9) else none)), ((er 0), aI k 6 (EN E 0)), ((er 1), aI k 6 (EN E 1)), ((er 2), aI k 6 (EN E 2)), ((er 3), aI k 6 (EN E 3)), ((er 4), aI k 6 (EN E 4)), ((er 5), aI k 6 (EN E 5)), (pl, aI k 6 ((lsA E n z F (f, f2, 0)).1)), (oft, aI k 6 ((lsA E n z F (f, f2, 0)).2.1))] rfl (fun j hj => by { have hT : S = (lsA E n z F (f, f2, 0)) := lsA_e hS (hiO_none.mpr fun b hb => hq b (by omega) hb); rw [hT] }) rfl ?_
        refine G.eqs (st' := [.int ((lsA E n z F (f, f2, 0)).2.2)]) (congrArg (fun z9 => [Value.int z9]) (show (S.2.2 : Int32) = (lsA E n z F (f, f2, 0)).2.2 from by { have hT : S = (lsA E n z F (f, f2, 0)) := lsA_e hS (hiO_none.mpr fun b hb => hq b (by omega) hb); rw [hT] })) ?_
        exact g_iret (pc := 119) C hr hlk (by first | decide | omega) (by first | decide | omega) (by first | decide | omega) dL_settles_119 ⟨rfl, rfl⟩
      · have hj0 := up_lt hj hn c_12
        refine G.eql (lv' := [(0, .ref lo), (1, .ref pl), (2, .ref oft), (3, .int S.2.2), (4, .int (nI (j - 1)))]) (congrArg (β := List (Nat × Value)) (fun z9 => [(0, .ref lo), (1, .ref pl), (2, .ref oft), (3, .int S.2.2), (4, .int z9)]) (show ((nI j - 1) : Int32) = (nI (j - 1)) from by exact up_e hj0)) ?_
        refine g_iload (pc := 15) C 4 rfl dL_settles_15 ?_
        refine g_aload_n (pc := 17) C 0 rfl rfl dL_settles_17 ?_
        refine g_get (pc := 18) C (T := TXL) inXL 0 rfl rfl 7 (by decide) q_563 rfl rfl dL_settles_18 ?_
        refine g_icmp_eq (pc := 21) C 112 (by decide) dL_settles_21 (fun c_21 => ?_) (fun c_21 => ?_)
        · have c21 := (nI_eq (by omega) (by omega)).mp c_21
          refine g_iinc (pc := 112) (n := -1) (v := ((nI (j - 1)) + (-1))) C 4 [(4, .int ((nI (j - 1)) + (-1))), (0, .ref lo), (1, .ref pl), (2, .ref oft), (3, .int S.2.2)] rfl rfl dL_settles_112 (by decide) rfl ?_
          refine g_goto (pc := 115) C 10 (by decide) dL_settles_115 ?_
          refine G.loc [1, 2, 3, 4, 0] (lv' := [(0, .ref lo), (1, .ref pl), (2, .ref oft), (3, .int S.2.2), (4, .int ((nI (j - 1)) + (-1)))]) rfl ?_
          refine G.eql (lv' := [(0, .ref lo), (1, .ref pl), (2, .ref oft), (3, .int S.2.2), (4, .int (nI (j - 1) - 1))]) (congrArg (β := List (Nat × Value)) (fun z9 => [(0, .ref lo), (1, .ref pl), (2, .ref oft), (3, .int S.2.2), (4, .int z9)]) (show (((nI (j - 1)) + (-1)) : Int32) = (nI (j - 1) - 1) from by first | (rw [up_m]) | rfl)) ?_
          exact ih_10 r (j - 1) S (by first | omega | (have := lsA_f hS hh hF; omega)) (by omega) (by first | exact hS | exact lsA_s (show F - r = (F - (r + 1)) + 1 by have := lsA_f hS hh hF; omega) hS hh) (by first | exact (fun b h1 h2 => absurd h2 (by omega)) | exact up_q hq hj0 (cnL_1 c21) | exact up_q hq hj0 (cnL_2 (by have := dg18 hE3 (j - 1); omega) c_30) | exact up_q hq hj0 (cnL_3 c_43)) (by first | omega | (have := lsA_f hS hh hF; omega))
        · have c21 : ¬ j - 1 = z := fun q => c_21 (by rw [q])
          refine g_aload_n (pc := 24) C 0 rfl rfl dL_settles_24 ?_
          refine g_iload (pc := 25) C 4 rfl dL_settles_25 ?_
          refine g_callV (pc := 27) (cells := 0) (slots := 0) (g := 0) (As := [.int (nI (j - 1))]) (st := []) (T := TXL) (q0 := 0) C (nA := 1) rfl (c_L_degree_ lo eo e1 e2 e3 e4 e5 er E n z sw (j - 1) (by first | assumption | decide | omega)) q_569 q_570 q_568 q_551 q_567 (by decide +kernel) rfl rfl dL_settles_27 ⟨Nat.le_of_ble_eq_true rfl, Nat.le_of_ble_eq_true rfl⟩ [0, 1, 2, 3, 4, 5, 6, 7] [8, 9] rfl (wr := [(pl, aI k 6 S.1), (oft, aI k 6 S.2.1)]) rfl (by decide) (by decide) (by decide) (Nat.le_of_ble_eq_true rfl) ⟨Nat.le_of_ble_eq_true rfl, Nat.le_of_ble_eq_true rfl⟩ (fun rv w1 h1 => ?_)
          obtain ⟨rfl, rfl⟩ := h1
          refine G.aft [2, 3, 4, 5, 6, 7, 8, 9, 0, 1] (ws' := [(lo, .inr (13, [.ref eo, .ref e1, .ref e2, .ref e3, .ref e4, .ref e5, .int (nI n), .int (nI z), .int sw])), (eo, aR k 3 6 (fun i9 => if i9 < 6 then some (er i9) else none)), ((er 0), aI k 6 (EN E 0)), ((er 1), aI k 6 (EN E 1)), ((er 2), aI k 6 (EN E 2)), ((er 3), aI k 6 (EN E 3)), ((er 4), aI k 6 (EN E 4)), ((er 5), aI k 6 (EN E 5)), (pl, aI k 6 S.1), (oft, aI k 6 S.2.1)]) (st' := [.int (nI (dg E (j - 1)))]) (cells' := 0) (slots' := 0) (g' := 0) (by decide) rfl rfl rfl rfl rfl ?_
          refine g_if_eq (pc := 30) C 112 (by decide) dL_settles_30 (fun c_30 => ?_) (fun c_30 => ?_)
          · refine g_iinc (pc := 112) (n := -1) (v := ((nI (j - 1)) + (-1))) C 4 [(4, .int ((nI (j - 1)) + (-1))), (0, .ref lo), (1, .ref pl), (2, .ref oft), (3, .int S.2.2)] rfl rfl dL_settles_112 (by decide) rfl ?_
            refine g_goto (pc := 115) C 10 (by decide) dL_settles_115 ?_
            refine G.loc [1, 2, 3, 4, 0] (lv' := [(0, .ref lo), (1, .ref pl), (2, .ref oft), (3, .int S.2.2), (4, .int ((nI (j - 1)) + (-1)))]) rfl ?_
            refine G.eql (lv' := [(0, .ref lo), (1, .ref pl), (2, .ref oft), (3, .int S.2.2), (4, .int (nI (j - 1) - 1))]) (congrArg (β := List (Nat × Value)) (fun z9 => [(0, .ref lo), (1, .ref pl), (2, .ref oft), (3, .int S.2.2), (4, .int z9)]) (show (((nI (j - 1)) + (-1)) : Int32) = (nI (j - 1) - 1) from by first | (rw [up_m]) | rfl)) ?_
            exact ih_10 r (j - 1) S (by first | omega | (have := lsA_f hS hh hF; omega)) (by omega) (by first | exact hS | exact lsA_s (show F - r = (F - (r + 1)) + 1 by have := lsA_f hS hh hF; omega) hS hh) (by first | exact (fun b h1 h2 => absurd h2 (by omega)) | exact up_q hq hj0 (cnL_1 c21) | exact up_q hq hj0 (cnL_2 (by have := dg18 hE3 (j - 1); omega) c_30) | exact up_q hq hj0 (cnL_3 c_43)) (by first | omega | (have := lsA_f hS hh hF; omega))
          · refine g_aload_n (pc := 33) C 1 rfl rfl dL_settles_33 ?_
            refine g_iload (pc := 34) C 4 rfl dL_settles_34 ?_
            refine g_iald_n (pc := 36) C (j := (j - 1)) 8 rfl (by omega) (by first | decide | omega) rfl dL_settles_36 ?_
            refine g_aload_n (pc := 37) C 0 rfl rfl dL_settles_37 ?_
            refine g_iload (pc := 38) C 4 rfl dL_settles_38 ?_
            refine g_callV (pc := 40) (cells := 0) (slots := 0) (g := 0) (As := [.int (nI (j - 1))]) (st := [.int (S.1 (j - 1))]) (T := TXL) (q0 := 0) C (nA := 1) rfl (c_L_degree_ lo eo e1 e2 e3 e4 e5 er E n z sw (j - 1) (by first | assumption | decide | omega)) q_569 q_570 q_568 q_551 q_567 (by decide +kernel) rfl rfl dL_settles_40 ⟨Nat.le_of_ble_eq_true rfl, Nat.le_of_ble_eq_true rfl⟩ [0, 1, 2, 3, 4, 5, 6, 7] [8, 9] rfl (wr := [(pl, aI k 6 S.1), (oft, aI k 6 S.2.1)]) rfl (by decide) (by decide) (by decide) (Nat.le_of_ble_eq_true rfl) ⟨Nat.le_of_ble_eq_true rfl, Nat.le_of_ble_eq_true rfl⟩ (fun rv w1 h1 => ?_)
            obtain ⟨rfl, rfl⟩ := h1
            refine G.aft [2, 3, 4, 5, 6, 7, 8, 9, 0, 1] (ws' := [(lo, .inr (13, [.ref eo, .ref e1, .ref e2, .ref e3, .ref e4, .ref e5, .int (nI n), .int (nI z), .int sw])), (eo, aR k 3 6 (fun i9 => if i9 < 6 then some (er i9) else none)), ((er 0), aI k 6 (EN E 0)), ((er 1), aI k 6 (EN E 1)), ((er 2), aI k 6 (EN E 2)), ((er 3), aI k 6 (EN E 3)), ((er 4), aI k 6 (EN E 4)), ((er 5), aI k 6 (EN E 5)), (pl, aI k 6 S.1), (oft, aI k 6 S.2.1)]) (st' := [.int (nI (dg E (j - 1))), .int (S.1 (j - 1))]) (cells' := 0) (slots' := 0) (g' := 0) (by decide) rfl rfl rfl rfl rfl ?_
            refine g_icmp_ge (pc := 43) C 49 (by decide) dL_settles_43 (fun c_43 => ?_) (fun c_43 => ?_)
            · have hh : hiO (cnL E z S.1) n = some (j - 1) := hiO_some (by omega) (cnL_y c21 c_30 (Int32.not_lt.mpr c_43)) (fun b h1 h2 => hq b (by omega) h2)
              refine g_aload_n (pc := 49) C 1 rfl rfl dL_settles_49 ?_
              refine g_iload (pc := 50) C 4 rfl dL_settles_50 ?_
              refine g_dup2 (pc := 52) C rfl rfl dL_settles_52 ?_
              refine g_iald_n (pc := 53) C (j := (j - 1)) 8 rfl (by omega) (by first | decide | omega) rfl dL_settles_53 ?_
              refine g_aload_n (pc := 54) C 0 rfl rfl dL_settles_54 ?_
              refine g_iload (pc := 55) C 4 rfl dL_settles_55 ?_
              refine g_callV (pc := 57) (cells := 0) (slots := 0) (g := 0) (As := [.int (nI (j - 1))]) (st := [.int (S.1 (j - 1)), .int (nI (j - 1)), .ref pl]) (T := TXL) (q0 := 0) C (nA := 1) rfl (c_L_degree_ lo eo e1 e2 e3 e4 e5 er E n z sw (j - 1) (by first | assumption | decide | omega)) q_569 q_570 q_568 q_551 q_567 (by decide +kernel) rfl rfl dL_settles_57 ⟨Nat.le_of_ble_eq_true rfl, Nat.le_of_ble_eq_true rfl⟩ [0, 1, 2, 3, 4, 5, 6, 7] [8, 9] rfl (wr := [(pl, aI k 6 S.1), (oft, aI k 6 S.2.1)]) rfl (by decide) (by decide) (by decide) (Nat.le_of_ble_eq_true rfl) ⟨Nat.le_of_ble_eq_true rfl, Nat.le_of_ble_eq_true rfl⟩ (fun rv w1 h1 => ?_)
              obtain ⟨rfl, rfl⟩ := h1
              refine G.aft [2, 3, 4, 5, 6, 7, 8, 9, 0, 1] (ws' := [(lo, .inr (13, [.ref eo, .ref e1, .ref e2, .ref e3, .ref e4, .ref e5, .int (nI n), .int (nI z), .int sw])), (eo, aR k 3 6 (fun i9 => if i9 < 6 then some (er i9) else none)), ((er 0), aI k 6 (EN E 0)), ((er 1), aI k 6 (EN E 1)), ((er 2), aI k 6 (EN E 2)), ((er 3), aI k 6 (EN E 3)), ((er 4), aI k 6 (EN E 4)), ((er 5), aI k 6 (EN E 5)), (pl, aI k 6 S.1), (oft, aI k 6 S.2.1)]) (st' := [.int (nI (dg E (j - 1))), .int (S.1 (j - 1)), .int (nI (j - 1)), .ref pl]) (cells' := 0) (slots' := 0) (g' := 0) (by decide) rfl rfl rfl rfl rfl ?_
              refine g_isub (pc := 60) C dL_settles_60 ?_
              refine g_iast_n (pc := 61) C (j := (j - 1)) 8 [(lo, .inr (13, [.ref eo, .ref e1, .ref e2, .ref e3, .ref e4, .ref e5, .int (nI n), .int (nI z), .int sw])), (eo, aR k 3 6 (fun i9 => if i9 < 6 then some (er i9) else none)), ((er 0), aI k 6 (EN E 0)), ((er 1), aI k 6 (EN E 1)), ((er 2), aI k 6 (EN E 2)), ((er 3), aI k 6 (EN E 3)), ((er 4), aI k 6 (EN E 4)), ((er 5), aI k 6 (EN E 5)), (pl, aI k 6 (upd S.1 (j - 1) ((S.1 (j - 1)) - (nI (dg E (j - 1)))))), (oft, aI k 6 S.2.1)] rfl (by omega) (by first | decide | omega) rfl rfl dL_settles_61 ?_
              refine g_iconst (pc := 62) (v := 0) C (by decide) dL_settles_62 ?_
              refine g_istore (pc := 63) C [(5, .int 0), (0, .ref lo), (1, .ref pl), (2, .ref oft), (3, .int S.2.2), (4, .int (nI (j - 1)))] dL_settles_63 (by decide) rfl ?_
              have key_65 : ∀ (fuel : Nat) (w : Nat), w ≤ 6 → 6 - w < fuel → G p9 l e9 { frames := 1, cells := 0, slots := 0, locals := 23 } s9 m9 ([.ref lo, .ref pl, .ref oft] : List Value).toArray bl9 me9 co9 D 6 (va_A [(lo, .inr (13, [.ref eo, .ref e1, .ref e2, .ref e3, .ref e4, .ref e5, .int (nI n), .int (nI z), .int sw])), (eo, aR k 3 6 (fun i9 => if i9 < 6 then some (er i9) else none)), ((er 0), aI k 6 (EN E 0)), ((er 1), aI k 6 (EN E 1)), ((er 2), aI k 6 (EN E 2)), ((er 3), aI k 6 (EN E 3)), ((er 4), aI k 6 (EN E 4)), ((er 5), aI k 6 (EN E 5)), (pl, aI k 6 f), (oft, aI k 6 f2)] s9.heap.size) (QM bl9 D ([.ref lo, .ref pl, .ref oft] : List Value).toArray s9 [(lo, .inr (13, [.ref eo, .ref e1, .ref e2, .ref e3, .ref e4, .ref e5, .int (nI n), .int (nI z), .int sw])), (eo, aR k 3 6 (fun i9 => if i9 < 6 then some (er i9) else none)), ((er 0), aI k 6 (EN E 0)), ((er 1), aI k 6 (EN E 1)), ((er 2), aI k 6 (EN E 2)), ((er 3), aI k 6 (EN E 3)), ((er 4), aI k 6 (EN E 4)), ((er 5), aI k 6 (EN E 5)), (pl, aI k 6 f), (oft, aI k 6 f2)] (is1 (some (.int ((lsA E n z F (f, f2, 0)).2.2))) [(lo, .inr (13, [.ref eo, .ref e1, .ref e2, .ref e3, .ref e4, .ref e5, .int (nI n), .int (nI z), .int sw])), (eo, aR k 3 6 (fun i9 => if i9 < 6 then some (er i9) else none)), ((er 0), aI k 6 (EN E 0)), ((er 1), aI k 6 (EN E 1)), ((er 2), aI k 6 (EN E 2)), ((er 3), aI k 6 (EN E 3)), ((er 4), aI k 6 (EN E 4)), ((er 5), aI k 6 (EN E 5)), (pl, aI k 6 ((lsA E n z F (f, f2, 0)).1)), (oft, aI k 6 ((lsA E n z F (f, f2, 0)).2.1))]) 0 0 0) [(lo, .inr (13, [.ref eo, .ref e1, .ref e2, .ref e3, .ref e4, .ref e5, .int (nI n), .int (nI z), .int sw])), (eo, aR k 3 6 (fun i9 => if i9 < 6 then some (er i9) else none)), ((er 0), aI k 6 (EN E 0)), ((er 1), aI k 6 (EN E 1)), ((er 2), aI k 6 (EN E 2)), ((er 3), aI k 6 (EN E 3)), ((er 4), aI k 6 (EN E 4)), ((er 5), aI k 6 (EN E 5)), (pl, aI k 6 (tlF E (j - 1) (upd S.1 (j - 1) (S.1 (j - 1) - nI (dg E (j - 1)))) w)), (oft, aI k 6 S.2.1)] [(0, .ref lo), (1, .ref pl), (2, .ref oft), (3, .int S.2.2), (4, .int (nI (j - 1))), (5, .int (nI w))] 0 0 0 65 [] := by
                intro fuel
                induction fuel with
                | zero => intro w hw hm; exact absurd hm (Nat.not_lt_zero _)
                | succ fuel ih =>
                  intro w hw hm
                  have ih_65 := ih
                  refine g_iload (pc := 65) C 5 rfl dL_settles_65 ?_
                  refine g_bipush (pc := 67) (v := 6) C (by decide) dL_settles_67 ?_
                  refine g_icmp_ge (pc := 69) C 95 (by decide) dL_settles_69 (fun c_69 => ?_) (fun c_69 => ?_)
                  · have h5 : w = 6 := by { have := nle_ge (b := 6) (a := w) (by omega) c_69; omega }
                    refine G.fn (tlF E (j - 1) (upd S.1 (j - 1) (S.1 (j - 1) - nI (dg E (j - 1)))) 6) 8 [(lo, .inr (13, [.ref eo, .ref e1, .ref e2, .ref e3, .ref e4, .ref e5, .int (nI n), .int (nI z), .int sw])), (eo, aR k 3 6 (fun i9 => if i9 < 6 then some (er i9) else none)), ((er 0), aI k 6 (EN E 0)), ((er 1), aI k 6 (EN E 1)), ((er 2), aI k 6 (EN E 2)), ((er 3), aI k 6 (EN E 3)), ((er 4), aI k 6 (EN E 4)), ((er 5), aI k 6 (EN E 5)), (pl, aI k 6 (tlF E (j - 1) (upd S.1 (j - 1) (S.1 (j - 1) - nI (dg E (j - 1)))) 6)), (oft, aI k 6 S.2.1)] rfl (fun j hj => by rw [h5]) rfl ?_
                    refine g_aload_n (pc := 95) C 2 rfl rfl dL_settles_95 ?_
                    refine g_iload (pc := 96) C 4 rfl dL_settles_96 ?_
                    refine g_dup2 (pc := 98) C rfl rfl dL_settles_98 ?_
                    refine g_iald_n (pc := 99) C (j := (j - 1)) 9 rfl (by omega) (by first | decide | omega) rfl dL_settles_99 ?_
                    refine g_iconst (pc := 100) (v := 1) C (by decide) dL_settles_100 ?_
                    refine g_iadd (pc := 101) C dL_settles_101 ?_
                    refine g_iast_n (pc := 102) C (j := (j - 1)) 9 [(lo, .inr (13, [.ref eo, .ref e1, .ref e2, .ref e3, .ref e4, .ref e5, .int (nI n), .int (nI z), .int sw])), (eo, aR k 3 6 (fun i9 => if i9 < 6 then some (er i9) else none)), ((er 0), aI k 6 (EN E 0)), ((er 1), aI k 6 (EN E 1)), ((er 2), aI k 6 (EN E 2)), ((er 3), aI k 6 (EN E 3)), ((er 4), aI k 6 (EN E 4)), ((er 5), aI k 6 (EN E 5)), (pl, aI k 6 (tlF E (j - 1) (upd S.1 (j - 1) (S.1 (j - 1) - nI (dg E (j - 1)))) 6)), (oft, aI k 6 (upd S.2.1 (j - 1) ((S.2.1 (j - 1)) + 1)))] rfl (by omega) (by first | decide | omega) rfl rfl dL_settles_102 ?_
                    refine g_iinc (pc := 103) (n := 1) (v := (S.2.2 + 1)) C 3 [(3, .int (S.2.2 + 1)), (0, .ref lo), (1, .ref pl), (2, .ref oft), (4, .int (nI (j - 1))), (5, .int (nI w))] rfl rfl dL_settles_103 (by decide) rfl ?_
                    refine g_aload_n (pc := 106) C 1 rfl rfl dL_settles_106 ?_
                    refine g_get (pc := 107) C (T := TXL) inXL 0 rfl rfl 6 (by decide) q_564 rfl rfl dL_settles_107 ?_
                    refine g_istore (pc := 110) C [(4, .int (nI n)), (3, .int (S.2.2 + 1)), (0, .ref lo), (1, .ref pl), (2, .ref oft), (5, .int (nI w))] dL_settles_110 (by decide) rfl ?_
                    refine g_iinc (pc := 112) (n := -1) (v := ((nI n) + (-1))) C 0 [(4, .int ((nI n) + (-1))), (3, .int (S.2.2 + 1)), (0, .ref lo), (1, .ref pl), (2, .ref oft), (5, .int (nI w))] rfl rfl dL_settles_112 (by decide) rfl ?_
                    refine g_goto (pc := 115) C 10 (by decide) dL_settles_115 ?_
                    refine G.loc [2, 3, 4, 1, 0] (lv' := [(0, .ref lo), (1, .ref pl), (2, .ref oft), (3, .int (S.2.2 + 1)), (4, .int ((nI n) + (-1)))]) rfl ?_
                    refine G.fn ((lsT E (j - 1) S).1) 8 [(lo, .inr (13, [.ref eo, .ref e1, .ref e2, .ref e3, .ref e4, .ref e5, .int (nI n), .int (nI z), .int sw])), (eo, aR k 3 6 (fun i9 => if i9 < 6 then some (er i9) else none)), ((er 0), aI k 6 (EN E 0)), ((er 1), aI k 6 (EN E 1)), ((er 2), aI k 6 (EN E 2)), ((er 3), aI k 6 (EN E 3)), ((er 4), aI k 6 (EN E 4)), ((er 5), aI k 6 (EN E 5)), (pl, aI k 6 ((lsT E (j - 1) S).1)), (oft, aI k 6 (upd S.2.1 (j - 1) ((S.2.1 (j - 1)) + 1)))] rfl (fun j hj => by rfl) rfl ?_
                    refine G.fn ((lsT E (j - 1) S).2.1) 9 [(lo, .inr (13, [.ref eo, .ref e1, .ref e2, .ref e3, .ref e4, .ref e5, .int (nI n), .int (nI z), .int sw])), (eo, aR k 3 6 (fun i9 => if i9 < 6 then some (er i9) else none)), ((er 0), aI k 6 (EN E 0)), ((er 1), aI k 6 (EN E 1)), ((er 2), aI k 6 (EN E 2)), ((er 3), aI k 6 (EN E 3)), ((er 4), aI k 6 (EN E 4)), ((er 5), aI k 6 (EN E 5)), (pl, aI k 6 ((lsT E (j - 1) S).1)), (oft, aI k 6 ((lsT E (j - 1) S).2.1))] rfl (fun j hj => by rfl) rfl ?_
                    refine G.eql (lv' := [(0, .ref lo), (1, .ref pl), (2, .ref oft), (3, .int ((lsT E (j - 1) S).2.2)), (4, .int (nI n - 1))]) ((congrArg (β := List (Nat × Value)) (fun z9 => [(0, .ref lo), (1, .ref pl), (2, .ref oft), (3, .int z9), (4, .int ((nI n) + (-1)))]) (show ((S.2.2 + 1) : Int32) = (lsT E (j - 1) S).2.2 from by first | (rw [up_m]) | rfl)).trans (congrArg (β := List (Nat × Value)) (fun z9 => [(0, .ref lo), (1, .ref pl), (2, .ref oft), (3, .int ((lsT E (j - 1) S).2.2)), (4, .int z9)]) (show (((nI n) + (-1)) : Int32) = (nI n - 1) from by first | (rw [up_m]) | rfl))) ?_
                    exact ih_10 (r + 1) n (lsT E (j - 1) S) (by first | omega | (have := lsA_f hS hh hF; omega)) (by omega) (by first | exact hS | exact lsA_s (show F - r = (F - (r + 1)) + 1 by have := lsA_f hS hh hF; omega) hS hh) (by first | exact (fun b h1 h2 => absurd h2 (by omega)) | exact up_q hq hj0 (cnL_1 c21) | exact up_q hq hj0 (cnL_2 (by have := dg18 hE3 (j - 1); omega) c_30) | exact up_q hq hj0 (cnL_3 c_43)) (by first | omega | (have := lsA_f hS hh hF; omega))
                  · have hl69 : w < 6 := nle_lt (by omega) c_69
                    refine g_aload_n (pc := 72) C 1 rfl rfl dL_settles_72 ?_
                    refine g_iload (pc := 73) C 5 rfl dL_settles_73 ?_
                    refine g_dup2 (pc := 75) C rfl rfl dL_settles_75 ?_
                    refine g_iald_n (pc := 76) C (j := w) 8 rfl (by omega) (by first | decide | omega) rfl dL_settles_76 ?_
                    refine g_aload_n (pc := 77) C 0 rfl rfl dL_settles_77 ?_
                    refine g_get (pc := 78) C (T := TXL) inXL 0 rfl rfl 0 (by decide) q_561 rfl rfl dL_settles_78 ?_
                    refine g_iload (pc := 81) C 4 rfl dL_settles_81 ?_
                    refine g_aald (pc := 83) C (j := (j - 1)) (b := er (j - 1)) 1 rfl (by omega) (by decide) rfl (if_pos (by omega)) dL_settles_83 ?_
                    refine g_iload (pc := 84) C 5 rfl dL_settles_84 ?_
                    refine g_iald_n (pc := 86) (a := (er (j - 1))) (n := 6) (f := (EN E (j - 1))) C (j := w) (2 + (j - 1)) (by rcases (show (j - 1) = 0 ∨ (j - 1) = 1 ∨ (j - 1) = 2 ∨ (j - 1) = 3 ∨ (j - 1) = 4 ∨ (j - 1) = 5 by omega) with h9 | h9 | h9 | h9 | h9 | h9 <;> rw [h9] <;> rfl) (by omega) (by first | decide | omega) rfl dL_settles_86 ?_
                    refine g_iadd (pc := 87) C dL_settles_87 ?_
                    refine g_iast_n (pc := 88) C (j := w) 8 [(lo, .inr (13, [.ref eo, .ref e1, .ref e2, .ref e3, .ref e4, .ref e5, .int (nI n), .int (nI z), .int sw])), (eo, aR k 3 6 (fun i9 => if i9 < 6 then some (er i9) else none)), ((er 0), aI k 6 (EN E 0)), ((er 1), aI k 6 (EN E 1)), ((er 2), aI k 6 (EN E 2)), ((er 3), aI k 6 (EN E 3)), ((er 4), aI k 6 (EN E 4)), ((er 5), aI k 6 (EN E 5)), (pl, aI k 6 (upd (tlF E (j - 1) (upd S.1 (j - 1) (S.1 (j - 1) - nI (dg E (j - 1)))) w) w (((tlF E (j - 1) (upd S.1 (j - 1) (S.1 (j - 1) - nI (dg E (j - 1)))) w) w) + ((EN E (j - 1)) w)))), (oft, aI k 6 S.2.1)] rfl (by omega) (by first | decide | omega) rfl rfl dL_settles_88 ?_
                    refine g_iinc (pc := 89) (n := 1) (v := (nI (w + 1))) C 5 [(5, .int (nI (w + 1))), (0, .ref lo), (1, .ref pl), (2, .ref oft), (3, .int S.2.2), (4, .int (nI (j - 1)))] rfl (nI_1 w) dL_settles_89 (by decide) rfl ?_
                    refine g_goto (pc := 92) C 65 (by decide) dL_settles_92 ?_
                    refine G.loc [1, 2, 3, 4, 5, 0] (lv' := [(0, .ref lo), (1, .ref pl), (2, .ref oft), (3, .int S.2.2), (4, .int (nI (j - 1))), (5, .int (nI (w + 1)))]) rfl ?_
                    refine G.fn (tlF E (j - 1) (upd S.1 (j - 1) (S.1 (j - 1) - nI (dg E (j - 1)))) (w + 1)) 8 [(lo, .inr (13, [.ref eo, .ref e1, .ref e2, .ref e3, .ref e4, .ref e5, .int (nI n), .int (nI z), .int sw])), (eo, aR k 3 6 (fun i9 => if i9 < 6 then some (er i9) else none)), ((er 0), aI k 6 (EN E 0)), ((er 1), aI k 6 (EN E 1)), ((er 2), aI k 6 (EN E 2)), ((er 3), aI k 6 (EN E 3)), ((er 4), aI k 6 (EN E 4)), ((er 5), aI k 6 (EN E 5)), (pl, aI k 6 (tlF E (j - 1) (upd S.1 (j - 1) (S.1 (j - 1) - nI (dg E (j - 1)))) (w + 1))), (oft, aI k 6 S.2.1)] rfl (fun j hj => by rfl) rfl ?_
                    exact ih_65 (w + 1) (by omega) (by omega)
              refine G.loc [1, 2, 3, 4, 5, 0] (lv' := [(0, .ref lo), (1, .ref pl), (2, .ref oft), (3, .int S.2.2), (4, .int (nI (j - 1))), (5, .int 0)]) rfl ?_
              refine G.fn (tlF E (j - 1) (upd S.1 (j - 1) (S.1 (j - 1) - nI (dg E (j - 1)))) 0) 8 [(lo, .inr (13, [.ref eo, .ref e1, .ref e2, .ref e3, .ref e4, .ref e5, .int (nI n), .int (nI z), .int sw])), (eo, aR k 3 6 (fun i9 => if i9 < 6 then some (er i9) else none)), ((er 0), aI k 6 (EN E 0)), ((er 1), aI k 6 (EN E 1)), ((er 2), aI k 6 (EN E 2)), ((er 3), aI k 6 (EN E 3)), ((er 4), aI k 6 (EN E 4)), ((er 5), aI k 6 (EN E 5)), (pl, aI k 6 (tlF E (j - 1) (upd S.1 (j - 1) (S.1 (j - 1) - nI (dg E (j - 1)))) 0)), (oft, aI k 6 S.2.1)] rfl (fun j hj => by rfl) rfl ?_
              refine G.eql (lv' := [(0, .ref lo), (1, .ref pl), (2, .ref oft), (3, .int S.2.2), (4, .int (nI (j - 1))), (5, .int (nI 0))]) (congrArg (β := List (Nat × Value)) (fun z9 => [(0, .ref lo), (1, .ref pl), (2, .ref oft), (3, .int S.2.2), (4, .int (nI (j - 1))), (5, .int z9)]) (show (0 : Int32) = (nI 0) from by exact nI_0.symm)) ?_
              exact key_65 (6 - 0 + 1) 0 (by omega) (Nat.lt_succ_self _)
            · rw [Int32.not_le] at c_43
              refine g_goto (pc := 46) C 112 (by decide) dL_settles_46 ?_
              refine g_iinc (pc := 112) (n := -1) (v := ((nI (j - 1)) + (-1))) C 4 [(4, .int ((nI (j - 1)) + (-1))), (0, .ref lo), (1, .ref pl), (2, .ref oft), (3, .int S.2.2)] rfl rfl dL_settles_112 (by decide) rfl ?_
              refine g_goto (pc := 115) C 10 (by decide) dL_settles_115 ?_
              refine G.loc [1, 2, 3, 4, 0] (lv' := [(0, .ref lo), (1, .ref pl), (2, .ref oft), (3, .int S.2.2), (4, .int ((nI (j - 1)) + (-1)))]) rfl ?_
              refine G.eql (lv' := [(0, .ref lo), (1, .ref pl), (2, .ref oft), (3, .int S.2.2), (4, .int (nI (j - 1) - 1))]) (congrArg (β := List (Nat × Value)) (fun z9 => [(0, .ref lo), (1, .ref pl), (2, .ref oft), (3, .int S.2.2), (4, .int z9)]) (show (((nI (j - 1)) + (-1)) : Int32) = (nI (j - 1) - 1) from by first | (rw [up_m]) | rfl)) ?_
              exact ih_10 r (j - 1) S (by first | omega | (have := lsA_f hS hh hF; omega)) (by omega) (by first | exact hS | exact lsA_s (show F - r = (F - (r + 1)) + 1 by have := lsA_f hS hh hF; omega) hS hh) (by first | exact (fun b h1 h2 => absurd h2 (by omega)) | exact up_q hq hj0 (cnL_1 c21) | exact up_q hq hj0 (cnL_2 (by have := dg18 hE3 (j - 1); omega) c_30) | exact up_q hq hj0 (cnL_3 c_43)) (by first | omega | (have := lsA_f hS hh hF; omega))
  refine G.loc [2, 3, 4, 1, 0] (lv' := [(0, .ref lo), (1, .ref pl), (2, .ref oft), (3, .int 0), (4, .int ((nI n) - 1))]) rfl ?_
  refine G.fn ((f, f2, 0).1) 8 [(lo, .inr (13, [.ref eo, .ref e1, .ref e2, .ref e3, .ref e4, .ref e5, .int (nI n), .int (nI z), .int sw])), (eo, aR k 3 6 (fun i9 => if i9 < 6 then some (er i9) else none)), ((er 0), aI k 6 (EN E 0)), ((er 1), aI k 6 (EN E 1)), ((er 2), aI k 6 (EN E 2)), ((er 3), aI k 6 (EN E 3)), ((er 4), aI k 6 (EN E 4)), ((er 5), aI k 6 (EN E 5)), (pl, aI k 6 ((f, f2, 0).1)), (oft, aI k 6 f2)] rfl (fun j hj => by rfl) rfl ?_
  refine G.fn ((f, f2, 0).2.1) 9 [(lo, .inr (13, [.ref eo, .ref e1, .ref e2, .ref e3, .ref e4, .ref e5, .int (nI n), .int (nI z), .int sw])), (eo, aR k 3 6 (fun i9 => if i9 < 6 then some (er i9) else none)), ((er 0), aI k 6 (EN E 0)), ((er 1), aI k 6 (EN E 1)), ((er 2), aI k 6 (EN E 2)), ((er 3), aI k 6 (EN E 3)), ((er 4), aI k 6 (EN E 4)), ((er 5), aI k 6 (EN E 5)), (pl, aI k 6 ((f, f2, 0).1)), (oft, aI k 6 ((f, f2, 0).2.1))] rfl (fun j hj => by rfl) rfl ?_
  refine G.eql (lv' := [(0, .ref lo), (1, .ref pl), (2, .ref oft), (3, .int ((f, f2, 0).2.2)), (4, .int (nI n - 1))]) ((congrArg (β := List (Nat × Value)) (fun z9 => [(0, .ref lo), (1, .ref pl), (2, .ref oft), (3, .int z9), (4, .int ((nI n) - 1))]) (show (0 : Int32) = (f, f2, 0).2.2 from by first | rfl)).trans (congrArg (β := List (Nat × Value)) (fun z9 => [(0, .ref lo), (1, .ref pl), (2, .ref oft), (3, .int ((f, f2, 0).2.2)), (4, .int z9)]) (show (((nI n) - 1) : Int32) = (nI n - 1) from by first | rfl))) ?_
  exact key_10 ((F - 0) * 7 + n + 1) 0 n (f, f2, 0) (by omega) (by omega) rfl (fun b h1 h2 => absurd h2 (by omega)) (Nat.lt_succ_self _)
