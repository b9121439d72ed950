/-! PICTURES: a square of side s, cells 0 .. s*s-1; topplings in any lawful order come to the least odometer that settles. -/
def sumN (f : Nat → Nat) : Nat → Nat
  | 0 => 0
  | n + 1 => sumN f n + f n
/-- one edge from c to j, or none -/
def nbr (s c j : Nat) : Nat := if (j + 1 = c ∧ 0 < c % s) ∨ (j = c + 1 ∧ c % s < s - 1) ∨ j + s = c ∨ (j = c + s ∧ c + s < s * s) then 1 else 0
def recv (s : Nat) (v : Nat → Nat) (j : Nat) : Nat := sumN (fun c => v c * nbr s c j) (s * s)
/-- so often as w says, and nothing is left to topple -/
def Stab (s : Nat) (f w : Nat → Nat) : Prop := ∀ j, j < s * s → f j + recv s w j < 4 + 4 * w j
/-- f came to g by topplings v, each of which any settling does too -/
def Went (s : Nat) (f g v : Nat → Nat) : Prop := (∀ j, j < s * s → g j + 4 * v j = f j + recv s v j) ∧ ∀ w, Stab s f w → ∀ j, j < s * s → v j ≤ w j
def tpl (s c t : Nat) (g : Nat → Nat) : Nat → Nat := fun j => if j = c then g j - 4 * t else g j + t * nbr s c j
def adv (v : Nat → Nat) (c t : Nat) : Nat → Nat := fun j => if j = c then v c + t else v j
theorem sumN_le {f g : Nat → Nat} : ∀ {n : Nat}, (∀ j, j < n → f j ≤ g j) → sumN f n ≤ sumN g n
  | 0, _ => Nat.le_refl _
  | n + 1, h => Nat.add_le_add (sumN_le fun j hj => h j (by omega)) (h n (by omega))
theorem sumN_eq {f g : Nat → Nat} : ∀ {n : Nat}, (∀ j, j < n → f j = g j) → sumN f n = sumN g n
  | 0, _ => rfl
  | n + 1, h => by
    show sumN f n + f n = sumN g n + g n
    rw [sumN_eq fun j hj => h j (by omega), h n (by omega)]
theorem sumN_adv (v : Nat → Nat) (c t : Nat) (b : Nat → Nat) : ∀ n, sumN (fun d => adv v c t d * b d) n = sumN (fun d => v d * b d) n + (if c < n then t * b c else 0)
  | 0 => by simp [sumN]
  | n + 1 => by
    show sumN (fun d => adv v c t d * b d) n + adv v c t n * b n = sumN (fun d => v d * b d) n + v n * b n + _
    rw [sumN_adv v c t b n]
    unfold adv
    by_cases h : n = c
    · subst h
      rw [if_neg (Nat.lt_irrefl _), if_pos rfl, if_pos (Nat.lt_succ_self _), Nat.add_mul]
      omega
    · rw [if_neg h]
      by_cases h2 : c < n
      · rw [if_pos h2, if_pos (Nat.lt_succ_of_lt h2)]; omega
      · rw [if_neg h2, if_neg (by omega)]; omega
theorem sumN_adv1 (v : Nat → Nat) (c t n : Nat) (h : c < n) : sumN (adv v c t) n = sumN v n + t := by
  have h1 := sumN_adv v c t (fun _ => 1) n
  rw [if_pos h] at h1
  simpa using h1
theorem recv_adv (s : Nat) (v : Nat → Nat) (c t j : Nat) (h : c < s * s) : recv s (adv v c t) j = recv s v j + t * nbr s c j := by
  unfold recv
  rw [sumN_adv v c t (fun d => nbr s d j) (s * s), if_pos h]
theorem recv_mono {s : Nat} {v w : Nat → Nat} (h : ∀ j, j < s * s → v j ≤ w j) (j : Nat) : recv s v j ≤ recv s w j := sumN_le fun d hd => Nat.mul_le_mul_right _ (h d hd)
theorem recv_eq {s : Nat} {v w : Nat → Nat} (h : ∀ j, j < s * s → v j = w j) (j : Nat) : recv s v j = recv s w j := sumN_eq fun d hd => by show v d * nbr s d j = w d * nbr s d j; rw [h d hd]
theorem nbr_self {s c : Nat} (hs : 0 < s) : nbr s c c = 0 := if_neg (by omega)
theorem sumN_0 : ∀ n, sumN (fun _ => 0) n = 0
  | 0 => rfl
  | n + 1 => by show sumN (fun _ => 0) n + 0 = 0; rw [sumN_0 n]
theorem went_0 (s : Nat) (f : Nat → Nat) : Went s f f (fun _ => 0) := by
  refine ⟨fun j _ => ?_, fun w _ j _ => Nat.zero_le _⟩
  have h : recv s (fun _ => 0) j = 0 := by
    unfold recv
    rw [sumN_eq (g := fun _ => 0) (fun d _ => Nat.zero_mul _), sumN_0]
  rw [h]
  rfl
theorem went_step {s : Nat} {f g v : Nat → Nat} {c t : Nat} (hs : 0 < s) (hW : Went s f g v) (hc : c < s * s) (ht : 4 * t ≤ g c) : Went s f (tpl s c t g) (adv v c t) := by
  refine ⟨fun j hj => ?_, fun w hw j hj => ?_⟩
  · rw [recv_adv s v c t j hc]
    have h1 := hW.1 j hj
    unfold tpl adv
    by_cases h : j = c
    · subst h
      rw [if_pos rfl, if_pos rfl, nbr_self hs]
      omega
    · rw [if_neg h, if_neg h]
      omega
  · have h2 := hW.2 w hw
    unfold adv
    by_cases h : j = c
    · subst h
      rw [if_pos rfl]
      have h1 := hW.1 j hj
      have h3 := recv_mono h2 j
      have h4 := hw j hj
      omega
    · rw [if_neg h]; exact h2 j hj
theorem went_stab {s : Nat} {f g v : Nat → Nat} (hW : Went s f g v) (h : ∀ j, j < s * s → g j < 4) : Stab s f v := fun j hj => by
  have h1 := hW.1 j hj
  have h2 := h j hj
  omega
theorem went_same {s : Nat} {f g v g' v' : Nat → Nat} (hW : Went s f g v) (h : ∀ j, j < s * s → g j < 4) (hW' : Went s f g' v') (h' : ∀ j, j < s * s → g' j < 4) : sumN v (s * s) = sumN v' (s * s) :=
  sumN_eq fun j hj => Nat.le_antisymm (hW.2 v' (went_stab hW' h') j hj) (hW'.2 v (went_stab hW h) j hj)
/-- how many topplings there are -/
def PicIs (s : Nat) (f : Nat → Nat) (a : Nat) : Prop := ∃ g v, Went s f g v ∧ (∀ j, j < s * s → g j < 4) ∧ a = sumN v (s * s)
noncomputable def picN (s : Nat) (f : Nat → Nat) : Nat := Classical.epsilon (PicIs s f)
theorem picN_eq {s : Nat} {f g v : Nat → Nat} (hW : Went s f g v) (h : ∀ j, j < s * s → g j < 4) : sumN v (s * s) = picN s f := by
  obtain ⟨g', v', h1, h2, h3⟩ := Classical.epsilon_spec (p := PicIs s f) ⟨_, g, v, hW, h, rfl⟩
  exact (went_same hW h h1 h2).trans h3.symm
/-- m chips in the middle -/
def fm (s m : Nat) : Nat → Nat := fun j => if j = s * s / 2 then m else 0
theorem stab_le {s m : Nat} {w : Nat → Nat} (hm : m ≤ 300) (h : Stab s (fm s 300) w) : Stab s (fm s m) w := fun j hj => by
  have h1 := h j hj
  have h2 : fm s m j ≤ fm s 300 j := by unfold fm; split <;> omega
  omega
def getL (l : List Nat) : Nat → Nat := fun j => l.getD j 0
def stabB (s : Nat) (l : List Nat) : Bool := (List.range (s * s)).all fun j => decide (fm s 300 j + recv s (getL l) j < 4 + 4 * getL l j)
theorem stab_of {s : Nat} {l : List Nat} (h : stabB s l = true) : Stab s (fm s 300) (getL l) := fun j hj => by
  have h1 := List.all_eq_true.mp h j (List.mem_range.mpr hj)
  simpa using h1
def bndB (s : Nat) (l : List Nat) : Bool := (List.range (s * s)).all fun j => decide (300 + recv s (getL l) j < 100000)
/-- no cell ever holds much -/
theorem went_bnd {s m : Nat} {l : List Nat} {g v : Nat → Nat} (hm : m ≤ 300) (hW : Went s (fm s m) g v) (h : stabB s l = true) (hb : bndB s l = true) : ∀ j, j < s * s → g j < 100000 := fun j hj => by
  have h1 := hW.1 j hj
  have h2 := recv_mono (hW.2 _ (stab_le hm (stab_of h))) j
  have h3 := List.all_eq_true.mp hb j (List.mem_range.mpr hj)
  simp only [decide_eq_true_eq] at h3
  have h4 : fm s m j ≤ m := by unfold fm; split <;> omega
  omega
theorem went_sum {s m : Nat} {l : List Nat} {g v : Nat → Nat} (hm : m ≤ 300) (hW : Went s (fm s m) g v) (h : stabB s l = true) : sumN v (s * s) ≤ sumN (getL l) (s * s) := sumN_le (hW.2 _ (stab_le hm (stab_of h)))

def pw3 : List Nat := [18, 36, 18, 36, 111, 36, 18, 36, 18]
theorem pw3_s : stabB 3 pw3 = true := by decide +kernel
theorem pw3_b : bndB 3 pw3 = true := by decide +kernel
theorem pw3_n : sumN (getL pw3) (3 * 3) = 327 := by decide +kernel
def pw5 : List Nat := [7, 15, 21, 15, 7, 15, 34, 54, 34, 15, 21, 54, 129, 54, 21, 15, 34, 54, 34, 15, 7, 15, 21, 15, 7]
theorem pw5_s : stabB 5 pw5 = true := by decide +kernel
theorem pw5_b : bndB 5 pw5 = true := by decide +kernel
theorem pw5_n : sumN (getL pw5) (5 * 5) = 713 := by decide +kernel
def pw7 : List Nat := [3, 7, 10, 12, 10, 7, 3, 7, 15, 24, 30, 24, 15, 7, 10, 24, 43, 63, 43, 24, 10, 12, 30, 63, 138, 63, 30, 12, 10, 24, 43, 63, 43, 24, 10, 7, 15, 24, 30, 24, 15, 7, 3, 7, 10, 12, 10, 7, 3]
theorem pw7_s : stabB 7 pw7 = true := by decide +kernel
theorem pw7_b : bndB 7 pw7 = true := by decide +kernel
theorem pw7_n : sumN (getL pw7) (7 * 7) = 1130 := by decide +kernel
def pw9 : List Nat := [1, 2, 4, 6, 7, 6, 4, 2, 1, 2, 6, 11, 16, 18, 16, 11, 6, 2, 4, 11, 20, 30, 36, 30, 20, 11, 4, 6, 16, 30, 49, 69, 49, 30, 16, 6, 7, 18, 36, 69, 144, 69, 36, 18, 7, 6, 16, 30, 49, 69, 49, 30, 16, 6, 4, 11, 20, 30, 36, 30, 20, 11, 4, 2, 6, 11, 16, 18, 16, 11, 6, 2, 1, 2, 4, 6, 7, 6, 4, 2, 1]
theorem pw9_s : stabB 9 pw9 = true := by decide +kernel
theorem pw9_b : bndB 9 pw9 = true := by decide +kernel
theorem pw9_n : sumN (getL pw9) (9 * 9) = 1520 := by decide +kernel
/-- cells that lose, cells that get -/
def sb (g : Nat → Nat) (c t : Nat) : Nat → Nat := fun j => if j = c then g j - t else g j
def ad (g : Nat → Nat) (c t : Nat) : Nat → Nat := fun j => if j = c then g j + t else g j
theorem ad_step (g : Nat → Nat) (c t j : Nat) : upd (fun j9 => nI (g j9)) c (nI (g c) + nI t) j = nI (ad g c t j) := by
  unfold upd ad
  by_cases h : j = c
  · subst h; rw [if_pos rfl, if_pos rfl, nI_add]
  · rw [if_neg h, if_neg h]
theorem sb_put (g : Nat → Nat) (c t j : Nat) : upd (fun j9 => nI (g j9)) c (nI (g c - t)) j = nI (sb g c t j) := by
  unfold upd sb
  by_cases h : j = c
  · subst h; rw [if_pos rfl, if_pos rfl]
  · rw [if_neg h, if_neg h]
theorem sb_num {a t : Nat} (h : 4 * t ≤ a) : nI a + (-(nI t)) * 4 = nI (a - 4 * t) := by
  obtain ⟨b, rfl⟩ : ∃ b, a = b + 4 * t := ⟨a - 4 * t, by omega⟩
  rw [Nat.add_sub_cancel, ← nI_add, ← pk_mul, show nI 4 = 4 from rfl, Int32.neg_mul, Int32.mul_comm (nI t) 4, Int32.add_assoc, Int32.add_right_neg, Int32.add_zero]
theorem sb_step {g : Nat → Nat} {c t : Nat} (h : 4 * t ≤ g c) (j : Nat) : upd (fun j9 => nI (g j9)) c (nI (g c) + (-(nI t)) * 4) j = nI (sb g c (4 * t) j) := by
  rw [sb_num h]; exact sb_put g c (4 * t) j
theorem pic_q {s c n m : Nat} {g v : Nat → Nat} (hc : c < s * s) (h1 : n ≤ sumN v (s * s)) (hq : sumN v (s * s) = n → ∀ j, j < c → g j < 4) : sumN (adv v c (g c / 4)) (s * s) = n → ∀ j, j < c + 1 → tpl s c (g c / 4) g j < 4 := by
  intro h j hj
  rw [sumN_adv1 _ _ _ _ hc] at h
  have h0 : g c / 4 = 0 := by omega
  have h2 := hq (by omega)
  rw [h0]
  unfold tpl
  by_cases hjc : j = c
  · subst hjc; rw [if_pos rfl]; omega
  · rw [if_neg hjc]
    have := h2 j (by omega)
    omega
theorem inR_m {m : Nat} (h : m ≤ 300) : inR (nI m) 0 300 = true := by
  unfold inR
  rw [decide_eq_true_eq]
  exact ⟨nI_pos (by omega), fun q => absurd (show nI 300 < nI m from q) (nI_nlt h (by omega))⟩
def picOk (side y : Int32) : Bool := decide (¬ side < 3 ∧ ¬ 9 < side ∧ ¬ (side &&& 1) = 0 ∧ ¬ y < 0 ∧ y ≤ 300)
def picOkR (side y : Int32) : Bool := decide (¬ bI (inR side 3 9) = 0 ∧ ¬ (side - side / 2 * 2) = 0 ∧ ¬ bI (inR y 0 300) = 0)
theorem picOk_m {side y : Int32} (h : picOk side y = true) : ∃ m, m ≤ 300 ∧ y = nI m ∧ (side = nI 3 ∨ side = nI 5 ∨ side = nI 7 ∨ side = nI 9) := by
  unfold picOk at h
  rw [decide_eq_true_eq] at h
  obtain ⟨h1, h2, h3, h4, h5⟩ := h
  obtain ⟨m, hm, rfl⟩ := nI_of2 (n := 300) (show (300 : Int32).toInt = (300 : Nat) by decide) h4 h5
  refine ⟨m, hm, rfl, ?_⟩
  have h6 : ¬ side < 0 := fun q => h1 (Int32.lt_trans q (by decide))
  obtain ⟨k, hk, rfl⟩ := nI_of2 (n := 9) (show (9 : Int32).toInt = (9 : Nat) by decide) h6 (Int32.not_lt.mp h2)
  have h7 : ¬ k < 3 := fun q => h1 (show nI k < nI 3 from nI_lt q (by omega))
  rcases (show k = 3 ∨ k = 4 ∨ k = 5 ∨ k = 6 ∨ k = 7 ∨ k = 8 ∨ k = 9 by omega) with rfl | rfl | rfl | rfl | rfl | rfl | rfl
  · exact Or.inl rfl
  · exact absurd (by decide) h3
  · exact Or.inr (Or.inl rfl)
  · exact absurd (by decide) h3
  · exact Or.inr (Or.inr (Or.inl rfl))
  · exact absurd (by decide) h3
  · exact Or.inr (Or.inr (Or.inr rfl))
theorem inR_iff {v lo hi : Int32} : bI (inR v lo hi) = 0 ↔ ¬ (¬ v < lo ∧ ¬ hi < v) := by
  unfold inR bI
  by_cases h : (¬ v < lo ∧ ¬ hi < v) <;> simp [h]
theorem picOkR_eq (side y : Int32) : picOkR side y = picOk side y := by
  unfold picOkR picOk
  rw [decide_eq_decide, inR_iff, inR_iff, Decidable.not_not, Decidable.not_not, ← Int32.not_lt (a := (300 : Int32)) (b := y)]
  constructor
  · rintro ⟨⟨h1, h2⟩, h3, h4, h5⟩
    refine ⟨h1, h2, ?_, h4, h5⟩
    have h6 : ¬ side < 0 := fun q => h1 (Int32.lt_trans q (by decide))
    obtain ⟨k, hk, rfl⟩ := nI_of2 (n := 9) (show (9 : Int32).toInt = (9 : Nat) by decide) h6 (Int32.not_lt.mp h2)
    rcases (show k = 0 ∨ k = 1 ∨ k = 2 ∨ k = 3 ∨ k = 4 ∨ k = 5 ∨ k = 6 ∨ k = 7 ∨ k = 8 ∨ k = 9 by omega) with rfl | rfl | rfl | rfl | rfl | rfl | rfl | rfl | rfl | rfl <;> first | decide | exact absurd (by decide) h3
  · rintro ⟨h1, h2, h3, h4, h5⟩
    refine ⟨⟨h1, h2⟩, ?_, h4, h5⟩
    have h6 : ¬ side < 0 := fun q => h1 (Int32.lt_trans q (by decide))
    obtain ⟨k, hk, rfl⟩ := nI_of2 (n := 9) (show (9 : Int32).toInt = (9 : Nat) by decide) h6 (Int32.not_lt.mp h2)
    rcases (show k = 0 ∨ k = 1 ∨ k = 2 ∨ k = 3 ∨ k = 4 ∨ k = 5 ∨ k = 6 ∨ k = 7 ∨ k = 8 ∨ k = 9 by omega) with rfl | rfl | rfl | rfl | rfl | rfl | rfl | rfl | rfl | rfl <;> first | decide | exact absurd (by decide) h3
