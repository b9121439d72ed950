/-! FIRE by places; CONNECTED by rounds -/
def low (P : Nat → Bool) : Nat → Option Nat
  | 0 => none
  | n + 1 => match low P n with
    | some v => some v
    | none => if P n = true then some n else none
theorem low_none {P : Nat → Bool} : ∀ {n : Nat}, low P n = none ↔ ∀ v, v < n → P v = false
  | 0 => ⟨fun _ v hv => absurd hv (by omega), fun _ => rfl⟩
  | n + 1 => by
    have ih := low_none (P := P) (n := n)
    unfold low
    cases h : low P n with
    | some v =>
      simp only [reduceCtorEq, false_iff]
      intro q
      have := ih.mpr fun u hu => q u (by omega)
      rw [h] at this
      cases this
    | none =>
      have h2 := ih.mp h
      cases hP : P n
      · simp only [Bool.false_eq_true, if_false, true_iff]
        intro v hv
        by_cases hvn : v = n
        · rw [hvn]; exact hP
        · exact h2 v (by omega)
      · simp only [if_true, reduceCtorEq, false_iff]
        intro q
        have := q n (by omega)
        rw [hP] at this
        cases this
theorem low_some {P : Nat → Bool} : ∀ {n v : Nat}, low P n = some v ↔ v < n ∧ P v = true ∧ ∀ u, u < v → P u = false
  | 0, v => ⟨fun h => (by cases h), fun h => absurd h.1 (by omega)⟩
  | n + 1, v => by
    have ih := fun u => low_some (P := P) (n := n) (v := u)
    unfold low
    cases h : low P n with
    | some w =>
      have h1 := (ih w).mp h
      simp only [Option.some.injEq]
      constructor
      · rintro rfl
        exact ⟨by omega, h1.2⟩
      · rintro ⟨q1, q2, q3⟩
        rcases Nat.lt_trichotomy w v with q | q | q
        · have := q3 w q; rw [h1.2.1] at this; cases this
        · exact q
        · have := h1.2.2 v q; rw [q2] at this; cases this
    | none =>
      have h2 := low_none.mp h
      cases hP : P n
      · simp only [Bool.false_eq_true, if_false, reduceCtorEq, false_iff]
        rintro ⟨q1, q2, -⟩
        by_cases hvn : v = n
        · rw [hvn, hP] at q2; cases q2
        · have := h2 v (by omega); rw [q2] at this; cases this
      · simp only [if_true, Option.some.injEq]
        constructor
        · rintro rfl
          exact ⟨by omega, hP, h2⟩
        · rintro ⟨q1, q2, -⟩
          by_cases hvn : v = n
          · exact hvn.symm
          · have := h2 v (by omega); rw [q2] at this; cases this
/-- the edges to those that don't burn yet -/
def unb (E : Nat → Nat → Nat) (p : Nat → Int) (v : Nat) : Nat := sumN (fun w => if p w < 0 then E v w else 0) 6
def canB (E : Nat → Nat → Nat) (g : Nat → Nat) (p : Nat → Int) (v : Nat) : Bool := decide (p v < 0) && decide (unb E p v ≤ g v)
def fstp (n : Nat) (E : Nat → Nat → Nat) (g : Nat → Nat) (p : Nat → Int) (k : Int) : Nat → Int := match low (canB E g p) n with
  | some v => fun j => if j = v then k else p j
  | none => p
/-- the places of the fire after k rounds -/
def fir (n : Nat) (E : Nat → Nat → Nat) (g : Nat → Nat) (z : Nat) : Nat → Nat → Int
  | 0 => fun j => if j = z then 0 else -1
  | k + 1 => fstp n E g (fir n E g z k) ((k : Int) + 1)
theorem fstp_none {n : Nat} {E : Nat → Nat → Nat} {g : Nat → Nat} {p : Nat → Int} {k : Int} (h : low (canB E g p) n = none) : fstp n E g p k = p := by
  unfold fstp; rw [h]
theorem fstp_some {n : Nat} {E : Nat → Nat → Nat} {g : Nat → Nat} {p : Nat → Int} {k : Int} {v : Nat} (h : low (canB E g p) n = some v) : fstp n E g p k = fun j => if j = v then k else p j := by
  unfold fstp; rw [h]
theorem fir_stop {n : Nat} {E : Nat → Nat → Nat} {g : Nat → Nat} {z k : Nat} (h : low (canB E g (fir n E g z k)) n = none) : ∀ d, fir n E g z (k + d) = fir n E g z k
  | 0 => rfl
  | d + 1 => by
    show fstp n E g (fir n E g z (k + d)) _ = _
    rw [fir_stop h d]
    exact fstp_none h
theorem fir_bd {n : Nat} {E : Nat → Nat → Nat} {g : Nat → Nat} {z : Nat} : ∀ k v, -1 ≤ fir n E g z k v ∧ fir n E g z k v ≤ k
  | 0, v => by
    show -1 ≤ (if v = z then (0 : Int) else -1) ∧ (if v = z then (0 : Int) else -1) ≤ 0
    split <;> omega
  | k + 1, v => by
    have ih := fir_bd (n := n) (E := E) (g := g) (z := z) k v
    show -1 ≤ fstp n E g (fir n E g z k) ((k : Int) + 1) v ∧ fstp n E g (fir n E g z k) ((k : Int) + 1) v ≤ ((k + 1 : Nat) : Int)
    cases h : low (canB E g (fir n E g z k)) n with
    | none => rw [fstp_none h]; omega
    | some w =>
      rw [fstp_some h]
      show -1 ≤ (if v = w then (k : Int) + 1 else _) ∧ (if v = w then (k : Int) + 1 else _) ≤ _
      split <;> omega
theorem fir_z {n : Nat} {E : Nat → Nat → Nat} {g : Nat → Nat} {z : Nat} : ∀ k, fir n E g z k z = 0
  | 0 => if_pos rfl
  | k + 1 => by
    have ih := fir_z (n := n) (E := E) (g := g) (z := z) k
    show fstp n E g (fir n E g z k) ((k : Int) + 1) z = 0
    cases h : low (canB E g (fir n E g z k)) n with
    | none => rw [fstp_none h]; exact ih
    | some w =>
      rw [fstp_some h]
      have h1 := (low_some.mp h).2.1
      have hzw : z ≠ w := fun q => by
        rw [← q] at h1
        unfold canB at h1
        rw [ih] at h1
        simp at h1
      show (if z = w then (k : Int) + 1 else _) = 0
      rw [if_neg hzw]; exact ih
theorem fir_out {n : Nat} {E : Nat → Nat → Nat} {g : Nat → Nat} {z : Nat} (hz : z < n) {v : Nat} (hv : n ≤ v) : ∀ k, fir n E g z k v = -1
  | 0 => if_neg (by omega)
  | k + 1 => by
    have ih := fir_out (E := E) (g := g) hz hv k
    show fstp n E g (fir n E g z k) ((k : Int) + 1) v = -1
    cases h : low (canB E g (fir n E g z k)) n with
    | none => rw [fstp_none h]; exact ih
    | some w =>
      rw [fstp_some h]
      have h1 := (low_some.mp h).1
      show (if v = w then (k : Int) + 1 else _) = -1
      rw [if_neg (by omega)]; exact ih
theorem fir_cnt {n : Nat} {E : Nat → Nat → Nat} {g : Nat → Nat} {z : Nat} (hz : z < n) : ∀ k, low (canB E g (fir n E g z k)) n = none ∨ k + 1 ≤ cnt (fun j => decide (0 ≤ fir n E g z k j)) n
  | 0 => Or.inr (by
    have := cnt_lt (P := fun _ => false) (Q := fun j => decide (0 ≤ fir n E g z 0 j)) z hz rfl (by rw [fir_z]; rfl) (fun j _ q => by cases q)
    omega)
  | k + 1 => by
    cases h : low (canB E g (fir n E g z k)) n with
    | none =>
      left
      rw [fir_stop h 1]; exact h
    | some w =>
      rcases fir_cnt (E := E) (g := g) hz k with q | q
      · rw [h] at q; cases q
      · right
        have h1 := low_some.mp h
        have h2 : fir n E g z k w < 0 := by
          have := h1.2.1
          unfold canB at this
          simp at this
          exact this.1
        have e : fir n E g z (k + 1) = fun j => if j = w then (k : Int) + 1 else fir n E g z k j := fstp_some h
        have := cnt_lt (P := fun j => decide (0 ≤ fir n E g z k j)) (Q := fun j => decide (0 ≤ fir n E g z (k + 1) j)) w h1.1 (by simp; exact h2) (by
          rw [e]; simp; omega) (fun j _ r => by
          rw [e]
          simp only [decide_eq_true_eq] at r ⊢
          split <;> omega)
        omega
theorem fir_fix {n : Nat} {E : Nat → Nat → Nat} {g : Nat → Nat} {z : Nat} (hz : z < n) {k : Nat} (hk : n ≤ k + 1) : low (canB E g (fir n E g z k)) n = none := by
  rcases fir_cnt (E := E) (g := g) hz k with q | q
  · exact q
  · refine low_none.mpr fun v hv => ?_
    have h1 := cnt_all (P := fun j => decide (0 ≤ fir n E g z k j)) (n := n) (by omega) v hv
    simp only [decide_eq_true_eq] at h1
    unfold canB
    have : ¬ fir n E g z k v < 0 := by omega
    simp [this]
theorem fir_same {n : Nat} {E : Nat → Nat → Nat} {g : Nat → Nat} {z : Nat} (hz : z < n) {k m : Nat} (hk : n ≤ k + 1) (hm : k ≤ m) : fir n E g z m = fir n E g z k := by
  obtain ⟨d, rfl⟩ := Nat.exists_eq_add_of_le hm
  exact fir_stop (fir_fix hz hk) d
/-- a pile without a forbidden set burns all over -/
theorem fir_all {n : Nat} {E : Nat → Nat → Nat} (hG : Gr n E) {g : Nat → Nat} {z : Nat} (hz : z < n) (hN : NFS E z g) {k : Nat} (hk : n ≤ k + 1) : ∀ v, v < n → 0 ≤ fir n E g z k v := by
  intro u hu
  refine Classical.byContradiction fun hlt => ?_
  have hn := hG.1
  obtain ⟨v, hv, hSv, hle⟩ := hN (fun w => decide (w < n) && decide (fir n E g z k w < 0)) (by rw [fir_z]; simp) ⟨u, by omega, by simp [hu]; omega⟩
  simp only [Bool.and_eq_true, decide_eq_true_eq] at hSv
  have h1 := low_none.mp (fir_fix (E := E) (g := g) hz hk) v hSv.1
  have h2 : unb E (fir n E g z k) v = dgS E (fun w => decide (w < n) && decide (fir n E g z k w < 0)) v := sumN_eq fun w _ => by
    by_cases hwn : w < n
    · simp [hwn]
    · rw [show E v w = 0 by rw [hG.2.1]; exact hG.2.2.2.1 w v (by omega)]
      split <;> split <;> rfl
  have h3 : canB E g (fir n E g z k) v = true := by
    unfold canB
    rw [h2]
    simp [hSv.2]
    exact hle
  rw [h1] at h3
  cases h3
theorem unb_congr {E : Nat → Nat → Nat} {p q : Nat → Int} (h : ∀ w, w < 6 → p w = q w) (v : Nat) : unb E p v = unb E q v := sumN_eq fun w hw => by rw [h w hw]
/-- nothing leaves it -/
def Clos (n : Nat) (E : Nat → Nat → Nat) (S : Nat → Bool) : Prop := ∀ v w, v < n → w < n → S v = true → 0 < E v w → S w = true
/-- what k rounds from r reach, or all that there is -/
def Lvl (n : Nat) (E : Nat → Nat → Nat) (r k : Nat) (R : Nat → Bool) : Prop := R r = true ∧ (∀ S, Clos n E S → S r = true → ∀ v, v < n → R v = true → S v = true) ∧ (Clos n E R ∨ k + 1 ≤ cnt R n)
theorem lvl_0 {n : Nat} {E : Nat → Nat → Nat} {r : Nat} (hr : r < n) {R : Nat → Bool} (h : ∀ v, v < n → (R v = true ↔ v = r)) : Lvl n E r 0 R := by
  refine ⟨(h r hr).mpr rfl, fun S _ hS v hv hR => by rw [(h v hv).mp hR]; exact hS, Or.inr ?_⟩
  have := cnt_lt (P := fun _ => false) (Q := R) (n := n) r hr rfl ((h r hr).mpr rfl) (fun j _ q => by cases q)
  omega
theorem lvl_step {n : Nat} {E : Nat → Nat → Nat} {r k : Nat} {A B : Nat → Bool} (h : Lvl n E r k A) (hr : r < n) (h1 : ∀ v, v < n → A v = true → B v = true) (h2 : ∀ v w, v < n → w < n → A v = true → 0 < E v w → B w = true) (h3 : ∀ S, Clos n E S → S r = true → ∀ v, v < n → B v = true → S v = true) : Lvl n E r (k + 1) B := by
  obtain ⟨a1, a2, a3⟩ := h
  refine ⟨h1 r hr a1, h3, ?_⟩
  by_cases hc : Clos n E A
  · left
    have hBA := h3 A hc a1
    intro v w hv hw hB hE
    exact h1 w hw (hc v w hv hw (hBA v hv hB) hE)
  · right
    have hex : ∃ v w, v < n ∧ w < n ∧ A v = true ∧ 0 < E v w ∧ A w = false := by
      refine Classical.byContradiction fun hno => hc fun v w hv hw hA hE => ?_
      cases hq : A w
      · exact absurd ⟨v, w, hv, hw, hA, hE, hq⟩ hno
      · rfl
    obtain ⟨v, w, hv, hw, hA, hE, hAw⟩ := hex
    have := cnt_lt (P := A) (Q := B) (n := n) w hw hAw (h2 v w hv hw hA hE) (fun j hj q => h1 j hj q)
    rcases a3 with q | q
    · exact absurd q hc
    · omega
theorem lvl_end {n : Nat} {E : Nat → Nat → Nat} (hS : ∀ i j, E i j = E j i) {r k : Nat} (hr : r < n) {R : Nat → Bool} (h : Lvl n E r k R) (hk : n ≤ k + 1) : (∀ v, v < n → R v = true) ↔ Conn n E := by
  obtain ⟨a1, a2, a3⟩ := h
  constructor
  · intro hall S ⟨u, hu, hSu⟩ hcl
    have hSr : S r = true := by
      cases hq : S r
      · have := a2 (fun v => !S v) (fun v w hv hw hv2 hE => by
          simp only [Bool.not_eq_true'] at hv2 ⊢
          cases hw2 : S w
          · rfl
          · have := hcl w v hw hv hw2 (by rw [hS]; exact hE)
            rw [hv2] at this; cases this) (by simp [hq]) u hu (hall u hu)
        simp [hSu] at this
      · rfl
    intro v hv
    exact a2 S hcl hSr v hv (hall v hv)
  · intro hC
    rcases a3 with q | q
    · exact hC R ⟨r, hr, a1⟩ q
    · exact cnt_all (by omega)
