theorem dL_trees_0 : decode cL_trees 0 = .ok (.bipush 30, 2) := by decide +kernel
theorem dL_trees_2 : decode cL_trees 2 = .ok (.newarray .int, 2) := by decide +kernel
theorem dL_trees_4 : decode cL_trees 4 = .ok (.astore_n 1, 1) := by decide +kernel
theorem dL_trees_5 : decode cL_trees 5 = .ok (.iconst 0, 1) := by decide +kernel
theorem dL_trees_6 : decode cL_trees 6 = .ok (.istore_n 2, 1) := by decide +kernel
theorem dL_trees_7 : decode cL_trees 7 = .ok (.iconst 0, 1) := by decide +kernel
theorem dL_trees_8 : decode cL_trees 8 = .ok (.istore_n 3, 1) := by decide +kernel
theorem dL_trees_9 : decode cL_trees 9 = .ok (.iload_n 3, 1) := by decide +kernel
theorem dL_trees_10 : decode cL_trees 10 = .ok (.aload_n 0, 1) := by decide +kernel
theorem dL_trees_11 : decode cL_trees 11 = .ok (.getfield 167, 3) := by decide +kernel
theorem dL_trees_14 : decode cL_trees 14 = .ok (.if_icmp .ge 49, 3) := by decide +kernel
theorem dL_trees_63 : decode cL_trees 63 = .ok (.lconst 0, 1) := by decide +kernel
theorem dL_trees_64 : decode cL_trees 64 = .ok (.lstore_n 3, 1) := by decide +kernel
theorem dL_trees_65 : decode cL_trees 65 = .ok (.iconst 0, 1) := by decide +kernel
theorem dL_trees_66 : decode cL_trees 66 = .ok (.istore 5, 2) := by decide +kernel
theorem dL_trees_68 : decode cL_trees 68 = .ok (.iload 5, 2) := by decide +kernel
theorem dL_trees_70 : decode cL_trees 70 = .ok (.iconst 1, 1) := by decide +kernel
theorem dL_trees_71 : decode cL_trees 71 = .ok (.iload_n 2, 1) := by decide +kernel
theorem dL_trees_72 : decode cL_trees 72 = .ok (.ishl, 1) := by decide +kernel
theorem dL_trees_73 : decode cL_trees 73 = .ok (.if_icmp .ge 194, 3) := by decide +kernel
theorem dL_trees_267 : decode cL_trees 267 = .ok (.aload_n 0, 1) := by decide +kernel
theorem dL_trees_268 : decode cL_trees 268 = .ok (.getfield 167, 3) := by decide +kernel
theorem dL_trees_271 : decode cL_trees 271 = .ok (.iconst 1, 1) := by decide +kernel
theorem dL_trees_272 : decode cL_trees 272 = .ok (.if_icmp .ne 7, 3) := by decide +kernel
theorem dL_trees_279 : decode cL_trees 279 = .ok (.lload_n 3, 1) := by decide +kernel
theorem dL_trees_280 : decode cL_trees 280 = .ok (.lreturn, 1) := by decide +kernel
theorem dL_trees_275 : decode cL_trees 275 = .ok (.lconst 1, 1) := by decide +kernel
theorem dL_trees_276 : decode cL_trees 276 = .ok (.goto 4, 3) := by decide +kernel
theorem dL_trees_76 : decode cL_trees 76 = .ok (.iload 5, 2) := by decide +kernel
theorem dL_trees_78 : decode cL_trees 78 = .ok (.invokestatic 240, 3) := by decide +kernel
theorem q_701 : (Jvm.Cond.methodLink "ChipfoldLaw" (240 : Nat) ({ cls := "java/lang/Integer", name := "bitCount", desc := "(I)I" } : Jvm.MethodName)) ∈ WG := wg_5 (List.mem_of_getElem? (i := 75) (by decide +kernel)) (by decide +kernel)
theorem dL_trees_81 : decode cL_trees 81 = .ok (.aload_n 0, 1) := by decide +kernel
theorem dL_trees_82 : decode cL_trees 82 = .ok (.getfield 167, 3) := by decide +kernel
theorem dL_trees_85 : decode cL_trees 85 = .ok (.iconst 1, 1) := by decide +kernel
theorem dL_trees_86 : decode cL_trees 86 = .ok (.isub, 1) := by decide +kernel
theorem dL_trees_87 : decode cL_trees 87 = .ok (.if_icmp .eq 6, 3) := by decide +kernel
theorem dL_trees_93 : decode cL_trees 93 = .ok (.bipush 6, 2) := by decide +kernel
theorem dL_trees_95 : decode cL_trees 95 = .ok (.newarray .int, 2) := by decide +kernel
theorem dL_trees_97 : decode cL_trees 97 = .ok (.dup, 1) := by decide +kernel
theorem dL_trees_98 : decode cL_trees 98 = .ok (.iconst 0, 1) := by decide +kernel
theorem dL_trees_99 : decode cL_trees 99 = .ok (.iconst 0, 1) := by decide +kernel
theorem dL_trees_100 : decode cL_trees 100 = .ok (.iastore, 1) := by decide +kernel
theorem dL_trees_101 : decode cL_trees 101 = .ok (.dup, 1) := by decide +kernel
theorem dL_trees_102 : decode cL_trees 102 = .ok (.iconst 1, 1) := by decide +kernel
theorem dL_trees_103 : decode cL_trees 103 = .ok (.iconst 1, 1) := by decide +kernel
theorem dL_trees_104 : decode cL_trees 104 = .ok (.iastore, 1) := by decide +kernel
theorem dL_trees_105 : decode cL_trees 105 = .ok (.dup, 1) := by decide +kernel
theorem dL_trees_106 : decode cL_trees 106 = .ok (.iconst 2, 1) := by decide +kernel
theorem dL_trees_107 : decode cL_trees 107 = .ok (.iconst 2, 1) := by decide +kernel
theorem dL_trees_108 : decode cL_trees 108 = .ok (.iastore, 1) := by decide +kernel
theorem dL_trees_109 : decode cL_trees 109 = .ok (.dup, 1) := by decide +kernel
theorem dL_trees_110 : decode cL_trees 110 = .ok (.iconst 3, 1) := by decide +kernel
theorem dL_trees_111 : decode cL_trees 111 = .ok (.iconst 3, 1) := by decide +kernel
theorem dL_trees_112 : decode cL_trees 112 = .ok (.iastore, 1) := by decide +kernel
theorem dL_trees_113 : decode cL_trees 113 = .ok (.dup, 1) := by decide +kernel
theorem dL_trees_114 : decode cL_trees 114 = .ok (.iconst 4, 1) := by decide +kernel
theorem dL_trees_115 : decode cL_trees 115 = .ok (.iconst 4, 1) := by decide +kernel
theorem dL_trees_116 : decode cL_trees 116 = .ok (.iastore, 1) := by decide +kernel
theorem dL_trees_117 : decode cL_trees 117 = .ok (.dup, 1) := by decide +kernel
theorem dL_trees_118 : decode cL_trees 118 = .ok (.iconst 5, 1) := by decide +kernel
theorem dL_trees_119 : decode cL_trees 119 = .ok (.iconst 5, 1) := by decide +kernel
theorem dL_trees_120 : decode cL_trees 120 = .ok (.iastore, 1) := by decide +kernel
theorem dL_trees_121 : decode cL_trees 121 = .ok (.astore 6, 2) := by decide +kernel
theorem dL_trees_123 : decode cL_trees 123 = .ok (.lconst 1, 1) := by decide +kernel
theorem dL_trees_124 : decode cL_trees 124 = .ok (.lstore 7, 2) := by decide +kernel
theorem dL_trees_126 : decode cL_trees 126 = .ok (.iconst 0, 1) := by decide +kernel
theorem dL_trees_127 : decode cL_trees 127 = .ok (.istore 9, 2) := by decide +kernel
theorem dL_trees_129 : decode cL_trees 129 = .ok (.iload 9, 2) := by decide +kernel
theorem dL_trees_131 : decode cL_trees 131 = .ok (.iload_n 2, 1) := by decide +kernel
theorem dL_trees_132 : decode cL_trees 132 = .ok (.if_icmp .ge 124, 3) := by decide +kernel
theorem dL_trees_256 : decode cL_trees 256 = .ok (.lload_n 3, 1) := by decide +kernel
theorem dL_trees_257 : decode cL_trees 257 = .ok (.lload 7, 2) := by decide +kernel
theorem dL_trees_259 : decode cL_trees 259 = .ok (.ladd, 1) := by decide +kernel
theorem dL_trees_260 : decode cL_trees 260 = .ok (.lstore_n 3, 1) := by decide +kernel
theorem dL_trees_261 : decode cL_trees 261 = .ok (.iinc 5 1, 3) := by decide +kernel
theorem dL_trees_264 : decode cL_trees 264 = .ok (.goto (-196), 3) := by decide +kernel
theorem dL_trees_135 : decode cL_trees 135 = .ok (.iload 5, 2) := by decide +kernel
theorem dL_trees_137 : decode cL_trees 137 = .ok (.iload 9, 2) := by decide +kernel
theorem dL_trees_139 : decode cL_trees 139 = .ok (.ishr, 1) := by decide +kernel
theorem dL_trees_140 : decode cL_trees 140 = .ok (.iconst 1, 1) := by decide +kernel
theorem dL_trees_141 : decode cL_trees 141 = .ok (.iand, 1) := by decide +kernel
theorem dL_trees_142 : decode cL_trees 142 = .ok (.ifCond .ne 6, 3) := by decide +kernel
theorem dL_trees_148 : decode cL_trees 148 = .ok (.aload 6, 2) := by decide +kernel
theorem dL_trees_150 : decode cL_trees 150 = .ok (.aload_n 1, 1) := by decide +kernel
theorem dL_trees_151 : decode cL_trees 151 = .ok (.iload 9, 2) := by decide +kernel
theorem dL_trees_153 : decode cL_trees 153 = .ok (.iaload, 1) := by decide +kernel
theorem dL_trees_154 : decode cL_trees 154 = .ok (.bipush 6, 2) := by decide +kernel
theorem dL_trees_156 : decode cL_trees 156 = .ok (.idiv, 1) := by decide +kernel
theorem dL_trees_157 : decode cL_trees 157 = .ok (.iaload, 1) := by decide +kernel
theorem dL_trees_158 : decode cL_trees 158 = .ok (.istore 10, 2) := by decide +kernel
theorem dL_trees_160 : decode cL_trees 160 = .ok (.aload 6, 2) := by decide +kernel
theorem dL_trees_162 : decode cL_trees 162 = .ok (.aload_n 1, 1) := by decide +kernel
theorem dL_trees_163 : decode cL_trees 163 = .ok (.iload 9, 2) := by decide +kernel
theorem dL_trees_165 : decode cL_trees 165 = .ok (.iaload, 1) := by decide +kernel
theorem dL_trees_166 : decode cL_trees 166 = .ok (.bipush 6, 2) := by decide +kernel
theorem dL_trees_168 : decode cL_trees 168 = .ok (.irem, 1) := by decide +kernel
theorem dL_trees_169 : decode cL_trees 169 = .ok (.iaload, 1) := by decide +kernel
theorem dL_trees_170 : decode cL_trees 170 = .ok (.istore 11, 2) := by decide +kernel
theorem dL_trees_172 : decode cL_trees 172 = .ok (.lload 7, 2) := by decide +kernel
theorem dL_trees_174 : decode cL_trees 174 = .ok (.iload 10, 2) := by decide +kernel
theorem dL_trees_176 : decode cL_trees 176 = .ok (.iload 11, 2) := by decide +kernel
theorem dL_trees_178 : decode cL_trees 178 = .ok (.if_icmp .ne 7, 3) := by decide +kernel
theorem dL_trees_185 : decode cL_trees 185 = .ok (.aload_n 0, 1) := by decide +kernel
theorem dL_trees_186 : decode cL_trees 186 = .ok (.getfield 9, 3) := by decide +kernel
theorem dL_trees_189 : decode cL_trees 189 = .ok (.aload_n 1, 1) := by decide +kernel
theorem dL_trees_190 : decode cL_trees 190 = .ok (.iload 9, 2) := by decide +kernel
theorem dL_trees_192 : decode cL_trees 192 = .ok (.iaload, 1) := by decide +kernel
theorem dL_trees_193 : decode cL_trees 193 = .ok (.bipush 6, 2) := by decide +kernel
theorem dL_trees_195 : decode cL_trees 195 = .ok (.idiv, 1) := by decide +kernel
theorem dL_trees_196 : decode cL_trees 196 = .ok (.aaload, 1) := by decide +kernel
theorem dL_trees_197 : decode cL_trees 197 = .ok (.aload_n 1, 1) := by decide +kernel
theorem dL_trees_198 : decode cL_trees 198 = .ok (.iload 9, 2) := by decide +kernel
theorem dL_trees_200 : decode cL_trees 200 = .ok (.iaload, 1) := by decide +kernel
theorem dL_trees_201 : decode cL_trees 201 = .ok (.bipush 6, 2) := by decide +kernel
theorem dL_trees_203 : decode cL_trees 203 = .ok (.irem, 1) := by decide +kernel
theorem dL_trees_204 : decode cL_trees 204 = .ok (.iaload, 1) := by decide +kernel
theorem dL_trees_205 : decode cL_trees 205 = .ok (.i2l, 1) := by decide +kernel
theorem dL_trees_206 : decode cL_trees 206 = .ok (.lmul, 1) := by decide +kernel
theorem dL_trees_207 : decode cL_trees 207 = .ok (.lstore 7, 2) := by decide +kernel
theorem dL_trees_209 : decode cL_trees 209 = .ok (.iconst 0, 1) := by decide +kernel
theorem dL_trees_210 : decode cL_trees 210 = .ok (.istore 12, 2) := by decide +kernel
theorem dL_trees_212 : decode cL_trees 212 = .ok (.iload 12, 2) := by decide +kernel
theorem dL_trees_214 : decode cL_trees 214 = .ok (.bipush 6, 2) := by decide +kernel
theorem dL_trees_216 : decode cL_trees 216 = .ok (.if_icmp .ge 34, 3) := by decide +kernel
theorem dL_trees_250 : decode cL_trees 250 = .ok (.iinc 9 1, 3) := by decide +kernel
theorem dL_trees_253 : decode cL_trees 253 = .ok (.goto (-124), 3) := by decide +kernel
theorem dL_trees_219 : decode cL_trees 219 = .ok (.aload 6, 2) := by decide +kernel
theorem dL_trees_221 : decode cL_trees 221 = .ok (.iload 12, 2) := by decide +kernel
theorem dL_trees_223 : decode cL_trees 223 = .ok (.aload 6, 2) := by decide +kernel
theorem dL_trees_225 : decode cL_trees 225 = .ok (.iload 12, 2) := by decide +kernel
theorem dL_trees_227 : decode cL_trees 227 = .ok (.iaload, 1) := by decide +kernel
theorem dL_trees_228 : decode cL_trees 228 = .ok (.iload 10, 2) := by decide +kernel
theorem dL_trees_230 : decode cL_trees 230 = .ok (.if_icmp .ne 8, 3) := by decide +kernel
theorem dL_trees_238 : decode cL_trees 238 = .ok (.aload 6, 2) := by decide +kernel
theorem dL_trees_240 : decode cL_trees 240 = .ok (.iload 12, 2) := by decide +kernel
theorem dL_trees_242 : decode cL_trees 242 = .ok (.iaload, 1) := by decide +kernel
theorem dL_trees_243 : decode cL_trees 243 = .ok (.iastore, 1) := by decide +kernel
theorem dL_trees_244 : decode cL_trees 244 = .ok (.iinc 12 1, 3) := by decide +kernel
theorem dL_trees_247 : decode cL_trees 247 = .ok (.goto (-35), 3) := by decide +kernel
theorem dL_trees_233 : decode cL_trees 233 = .ok (.iload 11, 2) := by decide +kernel
theorem dL_trees_235 : decode cL_trees 235 = .ok (.goto 8, 3) := by decide +kernel
theorem dL_trees_181 : decode cL_trees 181 = .ok (.lconst 0, 1) := by decide +kernel
theorem dL_trees_182 : decode cL_trees 182 = .ok (.goto 24, 3) := by decide +kernel
theorem dL_trees_145 : decode cL_trees 145 = .ok (.goto 105, 3) := by decide +kernel
theorem dL_trees_90 : decode cL_trees 90 = .ok (.goto 171, 3) := by decide +kernel
theorem dL_trees_17 : decode cL_trees 17 = .ok (.iconst 0, 1) := by decide +kernel
theorem dL_trees_18 : decode cL_trees 18 = .ok (.istore 4, 2) := by decide +kernel
theorem dL_trees_20 : decode cL_trees 20 = .ok (.iload 4, 2) := by decide +kernel
theorem dL_trees_22 : decode cL_trees 22 = .ok (.iload_n 3, 1) := by decide +kernel
theorem dL_trees_23 : decode cL_trees 23 = .ok (.if_icmp .ge 34, 3) := by decide +kernel
theorem dL_trees_57 : decode cL_trees 57 = .ok (.iinc 3 1, 3) := by decide +kernel
theorem dL_trees_60 : decode cL_trees 60 = .ok (.goto (-51), 3) := by decide +kernel
theorem dL_trees_26 : decode cL_trees 26 = .ok (.aload_n 0, 1) := by decide +kernel
theorem dL_trees_27 : decode cL_trees 27 = .ok (.getfield 9, 3) := by decide +kernel
theorem dL_trees_30 : decode cL_trees 30 = .ok (.iload_n 3, 1) := by decide +kernel
theorem dL_trees_31 : decode cL_trees 31 = .ok (.aaload, 1) := by decide +kernel
theorem dL_trees_32 : decode cL_trees 32 = .ok (.iload 4, 2) := by decide +kernel
theorem dL_trees_34 : decode cL_trees 34 = .ok (.iaload, 1) := by decide +kernel
theorem dL_trees_35 : decode cL_trees 35 = .ok (.ifCond .le 16, 3) := by decide +kernel
theorem dL_trees_51 : decode cL_trees 51 = .ok (.iinc 4 1, 3) := by decide +kernel
theorem dL_trees_54 : decode cL_trees 54 = .ok (.goto (-34), 3) := by decide +kernel
theorem dL_trees_38 : decode cL_trees 38 = .ok (.aload_n 1, 1) := by decide +kernel
theorem dL_trees_39 : decode cL_trees 39 = .ok (.iload_n 2, 1) := by decide +kernel
theorem dL_trees_40 : decode cL_trees 40 = .ok (.bipush 6, 2) := by decide +kernel
theorem dL_trees_42 : decode cL_trees 42 = .ok (.iload_n 3, 1) := by decide +kernel
theorem dL_trees_43 : decode cL_trees 43 = .ok (.imul, 1) := by decide +kernel
theorem dL_trees_44 : decode cL_trees 44 = .ok (.iload 4, 2) := by decide +kernel
theorem dL_trees_46 : decode cL_trees 46 = .ok (.iadd, 1) := by decide +kernel
theorem dL_trees_47 : decode cL_trees 47 = .ok (.iastore, 1) := by decide +kernel
theorem dL_trees_48 : decode cL_trees 48 = .ok (.iinc 2 1, 3) := by decide +kernel
/-- the pairs with edges, as 6 a + b: their list and number -/
def teI (E : Nat → Nat → Nat) (a : Nat) (S : (Nat → Nat) × Nat) : Nat → (Nat → Nat) × Nat
  | 0 => S
  | m + 1 => if E a m = 0 then teI E a S m else (fun j => if j = (teI E a S m).2 then 6 * a + m else (teI E a S m).1 j, (teI E a S m).2 + 1)
def teO (E : Nat → Nat → Nat) : Nat → (Nat → Nat) × Nat
  | 0 => (fun _ => 0, 0)
  | a + 1 => teI E a (teO E a) a
/-- one set of them: the parts and the product, edge by edge -/
def tpS (E : Nat → Nat → Nat) (e : Nat → Nat) (s : Nat) : Nat → (Nat → Nat) × Int64
  | 0 => (id, 1)
  | q + 1 => if ((nI s >>> (nI q &&& 31)) &&& 1) = 0 then tpS E e s q else
    (mrg (tpS E e s q).1 ((tpS E e s q).1 (e q / 6)) ((tpS E e s q).1 (e q % 6)), (tpS E e s q).2 * (if (tpS E e s q).1 (e q / 6) = (tpS E e s q).1 (e q % 6) then 0 else (EN E (e q / 6) (e q % 6)).toInt64))
def ttS (E : Nat → Nat → Nat) (e : Nat → Nat) (mn r : Nat) : Nat → Int64
  | 0 => 0
  | s + 1 => if bcI (nI s) = nI r then ttS E e mn r s + (tpS E e s mn).2 else ttS E e mn r s
def ttC (r : Nat) : Nat → Nat
  | 0 => 0
  | s + 1 => if bcI (nI s) = nI r then ttC r s + 1 else ttC r s
def ttV (E : Nat → Nat → Nat) (n : Nat) : Int64 := ttS E (teO E n).1 (teO E n).2 (n - 1) (2 ^ (teO E n).2)
theorem teI_le (E : Nat → Nat → Nat) (a : Nat) (S : (Nat → Nat) × Nat) : ∀ m, (teI E a S m).2 ≤ S.2 + m
  | 0 => Nat.le_refl _
  | m + 1 => by
    have := teI_le E a S m
    unfold teI
    split
    · omega
    · show _ + 1 ≤ _; omega
theorem teO_le (E : Nat → Nat → Nat) : ∀ n, n ≤ 6 → (teO E n).2 ≤ 15 := by
  have h : ∀ n, 2 * (teO E n).2 ≤ n * (n - 1) := by
    intro n
    induction n with
    | zero => exact Nat.le_refl _
    | succ a ih =>
      have := teI_le E a (teO E a) a
      show 2 * (teI E a (teO E a) a).2 ≤ (a + 1) * a
      cases a with
      | zero => simp at this ih ⊢; omega
      | succ b =>
        rw [show b + 1 - 1 = b from rfl] at ih
        have e1 : (b + 1 + 1) * (b + 1) = (b + 1) * b + 2 * (b + 1) := by rw [Nat.mul_comm (b + 1) b]; rw [show (b + 1 + 1) * (b + 1) = b * (b + 1) + 2 * (b + 1) by rw [← Nat.add_mul]]
        omega
  intro n hn
  have h1 := h n
  have h2 : n * (n - 1) ≤ 6 * 5 := Nat.mul_le_mul hn (by omega)
  omega
theorem teI_bd {E : Nat → Nat → Nat} {a : Nat} (ha : a < 6) {S : (Nat → Nat) × Nat} (hS : ∀ j, j < S.2 → S.1 j < 36) : ∀ m, m ≤ 6 → ∀ j, j < (teI E a S m).2 → (teI E a S m).1 j < 36
  | 0, _ => hS
  | m + 1, hm => by
    have ih := teI_bd (E := E) ha hS m (by omega)
    unfold teI
    split
    · exact ih
    · intro j hj
      show (if _ then _ else _) < 36
      by_cases h : j = (teI E a S m).2
      · rw [if_pos h]; omega
      · rw [if_neg h]; exact ih j (by have h9 : j < (teI E a S m).2 + 1 := hj; omega)
theorem teO_bd {E : Nat → Nat → Nat} : ∀ n, n ≤ 6 → ∀ j, j < (teO E n).2 → (teO E n).1 j < 36
  | 0, _ => fun j hj => absurd hj (Nat.not_lt_zero _)
  | a + 1, hn => teI_bd (by omega) (teO_bd a (by omega)) a (by omega)
theorem tp_bd {E : Nat → Nat → Nat} {e : Nat → Nat} {s mn : Nat} (he : ∀ j, j < mn → e j < 36) : ∀ q, q ≤ mn → ∀ v, v < 6 → (tpS E e s q).1 v < 6
  | 0, _ => fun v hv => hv
  | q + 1, hq => by
    have ih := tp_bd (E := E) (s := s) he q (by omega)
    unfold tpS
    split
    · exact ih
    · intro v hv
      show (if _ then _ else _) < 6
      have := he q (by omega)
      split
      · exact ih _ (by omega)
      · exact ih v hv
theorem ttC_le (r : Nat) : ∀ s, ttC r s ≤ s
  | 0 => Nat.le_refl _
  | s + 1 => by
    have := ttC_le r s
    unfold ttC
    split <;> omega
theorem ttC_up (r : Nat) {a : Nat} : ∀ {b : Nat}, a ≤ b → ttC r a ≤ ttC r b
  | 0, h => by rw [Nat.le_zero.mp h]; exact Nat.le_refl _
  | b + 1, h => by
    rcases Nat.lt_or_ge b a with q | q
    · rw [show a = b + 1 by omega]; exact Nat.le_refl _
    · have := ttC_up r q
      have e : ttC r (b + 1) = ttC r b ∨ ttC r (b + 1) = ttC r b + 1 := by
        by_cases h9 : bcI (nI b) = nI r
        · exact Or.inr (if_pos h9)
        · exact Or.inl (if_neg h9)
      omega
theorem p2_15 {m : Nat} (h : m ≤ 15) : 2 ^ m ≤ 32768 := Nat.pow_le_pow_right (n := 2) (by omega) h
theorem p2_sh2 {m : Nat} (h : m ≤ 15) : (1 : Int32) <<< (nI m &&& 31) = nI (2 ^ m) := by
  rcases (show m = 0 ∨ m = 1 ∨ m = 2 ∨ m = 3 ∨ m = 4 ∨ m = 5 ∨ m = 6 ∨ m = 7 ∨ m = 8 ∨ m = 9 ∨ m = 10 ∨ m = 11 ∨ m = 12 ∨ m = 13 ∨ m = 14 ∨ m = 15 by omega) with rfl | rfl | rfl | rfl | rfl | rfl | rfl | rfl | rfl | rfl | rfl | rfl | rfl | rfl | rfl | rfl <;> decide
theorem te_n {E : Nat → Nat → Nat} {a m : Nat} {S : (Nat → Nat) × Nat} (h : E a m = 0) : teI E a S (m + 1) = teI E a S m := if_pos h
theorem te_y {E : Nat → Nat → Nat} {a m : Nat} {S : (Nat → Nat) × Nat} (h : ¬ E a m = 0) : teI E a S (m + 1) = (fun j => if j = (teI E a S m).2 then 6 * a + m else (teI E a S m).1 j, (teI E a S m).2 + 1) := if_neg h
theorem te_u {g : Nat → Nat} {p x : Nat} (j : Nat) : upd (fun j9 => nI (g j9)) p (nI x) j = nI (if j = p then x else g j) := by
  unfold upd
  by_cases h : j = p
  · rw [if_pos h, if_pos h]
  · rw [if_neg h, if_neg h]
theorem tp_n {E : Nat → Nat → Nat} {e : Nat → Nat} {s q : Nat} (h : ((nI s >>> (nI q &&& 31)) &&& 1) = 0) : tpS E e s (q + 1) = tpS E e s q := if_pos h
theorem tp_e {E : Nat → Nat → Nat} {e : Nat → Nat} {s q : Nat} (h : ¬ ((nI s >>> (nI q &&& 31)) &&& 1) = 0) : tpS E e s (q + 1) = (mrg (tpS E e s q).1 ((tpS E e s q).1 (e q / 6)) ((tpS E e s q).1 (e q % 6)), (tpS E e s q).2 * (if (tpS E e s q).1 (e q / 6) = (tpS E e s q).1 (e q % 6) then 0 else (EN E (e q / 6) (e q % 6)).toInt64)) := if_neg h
theorem tp_y0 {E : Nat → Nat → Nat} {e : Nat → Nat} {s q : Nat} (h : ¬ ((nI s >>> (nI q &&& 31)) &&& 1) = 0) (h2 : (tpS E e s q).1 (e q / 6) = (tpS E e s q).1 (e q % 6)) : (tpS E e s (q + 1)).2 = (tpS E e s q).2 * 0 := by
  rw [tp_e h]
  show _ * (if _ then _ else _) = _
  rw [if_pos h2]
theorem tp_y1 {E : Nat → Nat → Nat} {e : Nat → Nat} {s q : Nat} (h : ¬ ((nI s >>> (nI q &&& 31)) &&& 1) = 0) (h2 : ¬ (tpS E e s q).1 (e q / 6) = (tpS E e s q).1 (e q % 6)) : (tpS E e s (q + 1)).2 = (tpS E e s q).2 * (EN E (e q / 6) (e q % 6)).toInt64 := by
  rw [tp_e h]
  show _ * (if _ then _ else _) = _
  rw [if_neg h2]
theorem tp_w {E : Nat → Nat → Nat} {e : Nat → Nat} {s q j : Nat} (h : ¬ ((nI s >>> (nI q &&& 31)) &&& 1) = 0) (hj : j < 6) : nI (if j < 6 ∧ (tpS E e s q).1 j = (tpS E e s q).1 (e q / 6) then (tpS E e s q).1 (e q % 6) else (tpS E e s q).1 j) = nI ((tpS E e s (q + 1)).1 j) := by
  rw [tp_e h]
  show _ = nI (if _ then _ else _)
  by_cases h2 : (tpS E e s q).1 j = (tpS E e s q).1 (e q / 6)
  · rw [if_pos ⟨hj, h2⟩, if_pos h2]
  · rw [if_neg (fun q => h2 q.2), if_neg h2]
theorem ip_0 {g : Nat → Nat} {a b : Nat} (j : Nat) : nI (g j) = nI (if j < 0 ∧ g j = a then b else g j) := by
  rw [if_neg (fun q => absurd q.1 (Nat.not_lt_zero _))]
theorem ip_y {g : Nat → Nat} {w a b : Nat} (h : g w = a) (j : Nat) : upd (fun j9 => nI (if j9 < w ∧ g j9 = a then b else g j9)) w (nI b) j = nI (if j < w + 1 ∧ g j = a then b else g j) := by
  unfold upd
  by_cases e : j = w
  · subst e; rw [if_pos rfl, if_pos ⟨by omega, h⟩]
  · rw [if_neg e]
    show nI (if j < w ∧ g j = a then b else g j) = _
    by_cases e2 : j < w ∧ g j = a
    · rw [if_pos e2, if_pos ⟨by omega, e2.2⟩]
    · rw [if_neg e2, if_neg (fun q => e2 ⟨by omega, q.2⟩)]
theorem ip_n {g : Nat → Nat} {w a b : Nat} (h : ¬ g w = a) (j : Nat) : upd (fun j9 => nI (if j9 < w ∧ g j9 = a then b else g j9)) w (nI (if w < w ∧ g w = a then b else g w)) j = nI (if j < w + 1 ∧ g j = a then b else g j) := by
  unfold upd
  by_cases e : j = w
  · subst e; rw [if_pos rfl, if_neg (fun q => h q.2), if_neg (fun q => h q.2)]
  · rw [if_neg e]
    show nI (if j < w ∧ g j = a then b else g j) = _
    by_cases e2 : j < w ∧ g j = a
    · rw [if_pos e2, if_pos ⟨by omega, e2.2⟩]
    · rw [if_neg e2, if_neg (fun q => e2 ⟨by omega, q.2⟩)]
theorem tt_n {E : Nat → Nat → Nat} {e : Nat → Nat} {mn r s : Nat} (h : ¬ bcI (nI s) = nI r) : ttS E e mn r (s + 1) = ttS E e mn r s := if_neg h
theorem tt_y {E : Nat → Nat → Nat} {e : Nat → Nat} {mn r s : Nat} (h : bcI (nI s) = nI r) : ttS E e mn r (s + 1) = ttS E e mn r s + (tpS E e s mn).2 := if_pos h
theorem tc_n {r s : Nat} (h : ¬ bcI (nI s) = nI r) : ttC r (s + 1) = ttC r s := if_neg h
theorem tc_y {r s : Nat} (h : bcI (nI s) = nI r) : ttC r (s + 1) = ttC r s + 1 := if_pos h
theorem tc_bd {r s : Nat} (hs : s ≤ 32768) : ttC r s ≤ 32768 := Nat.le_trans (ttC_le r s) hs
theorem tc_room {r s P : Nat} (hP : P ≤ 32768) (hs : s < P) : 1 + ttC r s + 1 ≤ 32800 ∧ 30 + 6 * ttC r s + 6 ≤ 196700 := by
  have h1 := ttC_le r s
  omega
set_option maxRecDepth 100000 in
set_option maxHeartbeats 400000 in
theorem c_L_trees {l : Launch} {D : va_G} {k : Nat → ClassId} (lo : Nat) (eo : Nat) (e1 : Nat) (e2 : Nat) (e3 : Nat) (e4 : Nat) (e5 : Nat) (er : Nat → Nat) (E : Nat → Nat → Nat) (n : Nat) (z : Nat) (sw : Int32) (hn : n ≤ 6) (h1 : 1 ≤ n) (hE3 : ∀ i j, E i j ≤ 3) : CM l D k yL_trees cL_trees 13 (some .long)  1 20 [.ref lo] [(lo, .inr (13, [.ref eo, .ref e1, .ref e2, .ref e3, .ref e4, .ref e5, .int (nI n), .int (nI z), .int sw])), (eo, aR k 3 6 (fun i9 => if i9 < 6 then some (er i9) else none)), ((er 0), aI k 6 (EN E 0)), ((er 1), aI k 6 (EN E 1)), ((er 2), aI k 6 (EN E 2)), ((er 3), aI k 6 (EN E 3)), ((er 4), aI k 6 (EN E 4)), ((er 5), aI k 6 (EN E 5))] (is1 (some (.long (if n = 1 then 1 else ttV E n))) [(lo, .inr (13, [.ref eo, .ref e1, .ref e2, .ref e3, .ref e4, .ref e5, .int (nI n), .int (nI z), .int sw])), (eo, aR k 3 6 (fun i9 => if i9 < 6 then some (er i9) else none)), ((er 0), aI k 6 (EN E 0)), ((er 1), aI k 6 (EN E 1)), ((er 2), aI k 6 (EN E 2)), ((er 3), aI k 6 (EN E 3)), ((er 4), aI k 6 (EN E 4)), ((er 5), aI k 6 (EN E 5))]) 32800 196700 0 := by
  refine CM.of (lv0 := [(0, .ref lo)]) (by decide +kernel) (Nat.le_of_ble_eq_true rfl) rfl ?_
  intro p9 e9 s9 m9 bl9 me9 co9 C hr hlk hin had
  have hmn := teO_le E n hn
  have hP := p2_15 hmn
  have hP1 : 1 ≤ 2 ^ (teO E n).2 := Nat.one_le_two_pow
  refine g_bipush (pc := 0) (v := 30) C (by decide) dL_trees_0 ?_
  refine g_newI (pc := 2) (cells := 0) (slots := 0) (g := 0) C 30 q_4 (by decide) (by decide) (Nat.le_of_ble_eq_true rfl) (Nat.le_of_ble_eq_true rfl) (Nat.le_of_ble_eq_true rfl) dL_trees_2 (fun q1 => ?_)
  refine G.eqw (ws' := [(lo, .inr (13, [.ref eo, .ref e1, .ref e2, .ref e3, .ref e4, .ref e5, .int (nI n), .int (nI z), .int sw])), (eo, aR k 3 6 (fun i9 => if i9 < 6 then some (er i9) else none)), ((er 0), aI k 6 (EN E 0)), ((er 1), aI k 6 (EN E 1)), ((er 2), aI k 6 (EN E 2)), ((er 3), aI k 6 (EN E 3)), ((er 4), aI k 6 (EN E 4)), ((er 5), aI k 6 (EN E 5)), (q1, aI k 30 (fun _ => 0))]) rfl ?_
  refine g_astore_n (pc := 4) C [(1, .ref q1), (0, .ref lo)] rfl dL_trees_4 (by decide) rfl ?_
  refine g_iconst (pc := 5) (v := 0) C (by decide) dL_trees_5 ?_
  refine g_istore_n (pc := 6) C [(2, .int 0), (1, .ref q1), (0, .ref lo)] rfl dL_trees_6 (by decide) rfl ?_
  refine g_iconst (pc := 7) (v := 0) C (by decide) dL_trees_7 ?_
  refine g_istore_n (pc := 8) C [(3, .int 0), (2, .int 0), (1, .ref q1), (0, .ref lo)] rfl dL_trees_8 (by decide) rfl ?_
  have key_9 : ∀ (fuel : Nat) (a9 : Nat), a9 ≤ n → n - a9 < fuel → G p9 l e9 { frames := 1, cells := 32800, slots := 196700, locals := 20 } s9 m9 ([.ref lo] : List Value).toArray bl9 me9 co9 D 13 (va_A [(lo, .inr (13, [.ref eo, .ref e1, .ref e2, .ref e3, .ref e4, .ref e5, .int (nI n), .int (nI z), .int sw])), (eo, aR k 3 6 (fun i9 => if i9 < 6 then some (er i9) else none)), ((er 0), aI k 6 (EN E 0)), ((er 1), aI k 6 (EN E 1)), ((er 2), aI k 6 (EN E 2)), ((er 3), aI k 6 (EN E 3)), ((er 4), aI k 6 (EN E 4)), ((er 5), aI k 6 (EN E 5))] s9.heap.size) (QM bl9 D ([.ref lo] : List Value).toArray s9 [(lo, .inr (13, [.ref eo, .ref e1, .ref e2, .ref e3, .ref e4, .ref e5, .int (nI n), .int (nI z), .int sw])), (eo, aR k 3 6 (fun i9 => if i9 < 6 then some (er i9) else none)), ((er 0), aI k 6 (EN E 0)), ((er 1), aI k 6 (EN E 1)), ((er 2), aI k 6 (EN E 2)), ((er 3), aI k 6 (EN E 3)), ((er 4), aI k 6 (EN E 4)), ((er 5), aI k 6 (EN E 5))] (is1 (some (.long (if n = 1 then 1 else ttV E n))) [(lo, .inr (13, [.ref eo, .ref e1, .ref e2, .ref e3, .ref e4, .ref e5, .int (nI n), .int (nI z), .int sw])), (eo, aR k 3 6 (fun i9 => if i9 < 6 then some (er i9) else none)), ((er 0), aI k 6 (EN E 0)), ((er 1), aI k 6 (EN E 1)), ((er 2), aI k 6 (EN E 2)), ((er 3), aI k 6 (EN E 3)), ((er 4), aI k 6 (EN E 4)), ((er 5), aI k 6 (EN E 5))]) 32800 196700 0) [(lo, .inr (13, [.ref eo, .ref e1, .ref e2, .ref e3, .ref e4, .ref e5, .int (nI n), .int (nI z), .int sw])), (eo, aR k 3 6 (fun i9 => if i9 < 6 then some (er i9) else none)), ((er 0), aI k 6 (EN E 0)), ((er 1), aI k 6 (EN E 1)), ((er 2), aI k 6 (EN E 2)), ((er 3), aI k 6 (EN E 3)), ((er 4), aI k 6 (EN E 4)), ((er 5), aI k 6 (EN E 5)), (q1, aI k 30 (fun j9 => nI ((teO E a9).1 j9)))] [(0, .ref lo), (1, .ref q1), (2, .int (nI (teO E a9).2)), (3, .int (nI a9))] 1 30 1 9 [] := by
    intro fuel
    induction fuel with
    | zero => intro a9 ha9 hm; exact absurd hm (Nat.not_lt_zero _)
    | succ fuel ih =>
      intro a9 ha9 hm
      have ih_9 := ih
      refine g_iload_n (pc := 9) C 3 rfl rfl dL_trees_9 ?_
      refine g_aload_n (pc := 10) C 0 rfl rfl dL_trees_10 ?_
      refine g_get (pc := 11) C (T := TXL) inXL 0 rfl rfl 6 (by decide) q_564 rfl rfl dL_trees_11 ?_
      refine g_icmp_ge (pc := 14) C 63 (by decide) dL_trees_14 (fun c_14 => ?_) (fun c_14 => ?_)
      · have h3 : a9 = n := by { have := nle_ge (b := n) (a := a9) (by omega) c_14; omega }
        refine G.fn (fun j9 => nI ((teO E n).1 j9)) 8 [(lo, .inr (13, [.ref eo, .ref e1, .ref e2, .ref e3, .ref e4, .ref e5, .int (nI n), .int (nI z), .int sw])), (eo, aR k 3 6 (fun i9 => if i9 < 6 then some (er i9) else none)), ((er 0), aI k 6 (EN E 0)), ((er 1), aI k 6 (EN E 1)), ((er 2), aI k 6 (EN E 2)), ((er 3), aI k 6 (EN E 3)), ((er 4), aI k 6 (EN E 4)), ((er 5), aI k 6 (EN E 5)), (q1, aI k 30 (fun j9 => nI ((teO E n).1 j9)))] rfl (fun j hj => by rw [h3]) rfl ?_
        refine G.eql (lv' := [(0, .ref lo), (1, .ref q1), (2, .int (nI (teO E n).2)), (3, .int (nI a9))]) (congrArg (β := List (Nat × Value)) (fun z9 => [(0, .ref lo), (1, .ref q1), (2, .int z9), (3, .int (nI a9))]) (show ((nI (teO E a9).2) : Int32) = (nI (teO E n).2) from by rw [h3])) ?_
        refine g_lconst (pc := 63) (v := 0) C (by decide) dL_trees_63 ?_
        refine g_lstore_n (pc := 64) C [(3, .long 0), (0, .ref lo), (1, .ref q1), (2, .int (nI (teO E n).2))] rfl dL_trees_64 (by decide) rfl ?_
        refine g_iconst (pc := 65) (v := 0) C (by decide) dL_trees_65 ?_
        refine g_istore (pc := 66) C [(5, .int 0), (3, .long 0), (0, .ref lo), (1, .ref q1), (2, .int (nI (teO E n).2))] dL_trees_66 (by decide) rfl ?_
        have key_68 : ∀ (fuel : Nat) (s8 : Nat), s8 ≤ 2 ^ (teO E n).2 → 2 ^ (teO E n).2 - s8 < fuel → G p9 l e9 { frames := 1, cells := 32800, slots := 196700, locals := 20 } s9 m9 ([.ref lo] : List Value).toArray bl9 me9 co9 D 13 (va_A [(lo, .inr (13, [.ref eo, .ref e1, .ref e2, .ref e3, .ref e4, .ref e5, .int (nI n), .int (nI z), .int sw])), (eo, aR k 3 6 (fun i9 => if i9 < 6 then some (er i9) else none)), ((er 0), aI k 6 (EN E 0)), ((er 1), aI k 6 (EN E 1)), ((er 2), aI k 6 (EN E 2)), ((er 3), aI k 6 (EN E 3)), ((er 4), aI k 6 (EN E 4)), ((er 5), aI k 6 (EN E 5))] s9.heap.size) (QM bl9 D ([.ref lo] : List Value).toArray s9 [(lo, .inr (13, [.ref eo, .ref e1, .ref e2, .ref e3, .ref e4, .ref e5, .int (nI n), .int (nI z), .int sw])), (eo, aR k 3 6 (fun i9 => if i9 < 6 then some (er i9) else none)), ((er 0), aI k 6 (EN E 0)), ((er 1), aI k 6 (EN E 1)), ((er 2), aI k 6 (EN E 2)), ((er 3), aI k 6 (EN E 3)), ((er 4), aI k 6 (EN E 4)), ((er 5), aI k 6 (EN E 5))] (is1 (some (.long (if n = 1 then 1 else ttV E n))) [(lo, .inr (13, [.ref eo, .ref e1, .ref e2, .ref e3, .ref e4, .ref e5, .int (nI n), .int (nI z), .int sw])), (eo, aR k 3 6 (fun i9 => if i9 < 6 then some (er i9) else none)), ((er 0), aI k 6 (EN E 0)), ((er 1), aI k 6 (EN E 1)), ((er 2), aI k 6 (EN E 2)), ((er 3), aI k 6 (EN E 3)), ((er 4), aI k 6 (EN E 4)), ((er 5), aI k 6 (EN E 5))]) 32800 196700 0) [(lo, .inr (13, [.ref eo, .ref e1, .ref e2, .ref e3, .ref e4, .ref e5, .int (nI n), .int (nI z), .int sw])), (eo, aR k 3 6 (fun i9 => if i9 < 6 then some (er i9) else none)), ((er 0), aI k 6 (EN E 0)), ((er 1), aI k 6 (EN E 1)), ((er 2), aI k 6 (EN E 2)), ((er 3), aI k 6 (EN E 3)), ((er 4), aI k 6 (EN E 4)), ((er 5), aI k 6 (EN E 5)), (q1, aI k 30 (fun j9 => nI ((teO E n).1 j9)))] [(0, .ref lo), (1, .ref q1), (2, .int (nI (teO E n).2)), (3, .long (ttS E (teO E n).1 (teO E n).2 (n - 1) s8)), (5, .int (nI s8))] (1 + ttC (n - 1) s8) (30 + 6 * ttC (n - 1) s8) 1 68 [] := by
          intro fuel
          induction fuel with
          | zero => intro s8 hs8 hm; exact absurd hm (Nat.not_lt_zero _)
          | succ fuel ih =>
            intro s8 hs8 hm
            have ih_68 := ih
            refine g_iload (pc := 68) C 4 rfl dL_trees_68 ?_
            refine g_iconst (pc := 70) (v := 1) C (by decide) dL_trees_70 ?_
            refine g_iload_n (pc := 71) C 2 rfl rfl dL_trees_71 ?_
            refine g_ishl (pc := 72) C dL_trees_72 ?_
            refine G.eqs (st' := [.int (nI (2 ^ (teO E n).2)), .int (nI s8)]) (congrArg (β := List Value) (fun z9 => [.int z9, .int (nI s8)]) (show ((1 <<< ((nI (teO E n).2) &&& 31)) : Int32) = (nI (2 ^ (teO E n).2)) from p2_sh2 hmn)) ?_
            refine g_icmp_ge (pc := 73) C 267 (by decide) dL_trees_73 (fun c_73 => ?_) (fun c_73 => ?_)
            · have htc := tc_bd (r := n - 1) (show s8 ≤ 32768 by omega)
              have h3s : s8 = 2 ^ (teO E n).2 := by { have := nle_ge (b := 2 ^ (teO E n).2) (a := s8) (by omega) c_73; omega }
              refine g_aload_n (pc := 267) C 0 rfl rfl dL_trees_267 ?_
              refine g_get (pc := 268) C (T := TXL) inXL 0 rfl rfl 6 (by decide) q_564 rfl rfl dL_trees_268 ?_
              refine g_iconst (pc := 271) (v := 1) C (by decide) dL_trees_271 ?_
              refine g_icmp_ne (pc := 272) C 279 (by decide) dL_trees_272 (fun c_272 => ?_) (fun c_272 => ?_)
              · refine g_lload_n (pc := 279) C 3 rfl rfl dL_trees_279 ?_
                refine G.re [0, 1, 2, 3, 4, 5, 6, 7] (ws' := [(lo, .inr (13, [.ref eo, .ref e1, .ref e2, .ref e3, .ref e4, .ref e5, .int (nI n), .int (nI z), .int sw])), (eo, aR k 3 6 (fun i9 => if i9 < 6 then some (er i9) else none)), ((er 0), aI k 6 (EN E 0)), ((er 1), aI k 6 (EN E 1)), ((er 2), aI k 6 (EN E 2)), ((er 3), aI k 6 (EN E 3)), ((er 4), aI k 6 (EN E 4)), ((er 5), aI k 6 (EN E 5))]) (by decide) rfl ?_
                refine G.eqs (st' := [.long (if n = 1 then 1 else ttV E n)]) (congrArg (fun z9 => [Value.long z9]) (show ((ttS E (teO E n).1 (teO E n).2 (n - 1) s8) : Int64) = (if n = 1 then 1 else ttV E n) from by first | (rw [if_pos ((nI_eq (a := n) (b := 1) (by omega) (by omega)).mp c_272)]) | (rw [if_neg (fun q => c_272 (by rw [q]; rfl)), h3s]; try rfl))) ?_
                exact g_lret (pc := 280) C hr hlk (by first | decide | omega) (by first | decide | omega) (by first | decide | omega) dL_trees_280 ⟨rfl, rfl⟩
              · refine g_lconst (pc := 275) (v := 1) C (by decide) dL_trees_275 ?_
                refine g_goto (pc := 276) C 280 (by decide) dL_trees_276 ?_
                refine G.re [0, 1, 2, 3, 4, 5, 6, 7] (ws' := [(lo, .inr (13, [.ref eo, .ref e1, .ref e2, .ref e3, .ref e4, .ref e5, .int (nI n), .int (nI z), .int sw])), (eo, aR k 3 6 (fun i9 => if i9 < 6 then some (er i9) else none)), ((er 0), aI k 6 (EN E 0)), ((er 1), aI k 6 (EN E 1)), ((er 2), aI k 6 (EN E 2)), ((er 3), aI k 6 (EN E 3)), ((er 4), aI k 6 (EN E 4)), ((er 5), aI k 6 (EN E 5))]) (by decide) rfl ?_
                refine G.eqs (st' := [.long (if n = 1 then 1 else ttV E n)]) (congrArg (fun z9 => [Value.long z9]) (show (1 : Int64) = (if n = 1 then 1 else ttV E n) from by first | (rw [if_pos ((nI_eq (a := n) (b := 1) (by omega) (by omega)).mp c_272)]) | (rw [if_neg (fun q => c_272 (by rw [q]; rfl)), h3s]; try rfl))) ?_
                exact g_lret (pc := 280) C hr hlk (by first | decide | omega) (by first | decide | omega) (by first | decide | omega) dL_trees_280 ⟨rfl, rfl⟩
            · have htc := tc_bd (r := n - 1) (show s8 ≤ 32768 by omega)
              have hl73 : s8 < 2 ^ (teO E n).2 := nle_lt (by omega) c_73
              refine g_iload (pc := 76) C 4 rfl dL_trees_76 ?_
              refine g_callSO (pc := 78) (cells := 1 + ttC (n - 1) s8) (slots := 30 + 6 * ttC (n - 1) s8) (g := 1) (As := [.int (nI s8)]) (st := []) (b := 0) C (nA := 1) rfl (c_J6_bitCount_0f7a4 (nI s8) ) q_701 q_286 q_284 q_283 (by decide +kernel) dL_trees_78 ⟨Nat.le_of_ble_eq_true rfl, Nat.le_of_ble_eq_true rfl⟩ [] [0, 1, 2, 3, 4, 5, 6, 7, 8] rfl (wr := [(lo, .inr (13, [.ref eo, .ref e1, .ref e2, .ref e3, .ref e4, .ref e5, .int (nI n), .int (nI z), .int sw])), (eo, aR k 3 6 (fun i9 => if i9 < 6 then some (er i9) else none)), ((er 0), aI k 6 (EN E 0)), ((er 1), aI k 6 (EN E 1)), ((er 2), aI k 6 (EN E 2)), ((er 3), aI k 6 (EN E 3)), ((er 4), aI k 6 (EN E 4)), ((er 5), aI k 6 (EN E 5)), (q1, aI k 30 (fun j9 => nI ((teO E n).1 j9)))]) rfl (by decide) (by decide) (by decide) (Nat.le_of_ble_eq_true rfl) ⟨by show _ ≤ 32800; omega, by show _ ≤ 196700; omega⟩ (fun rv w1 h1 => ?_)
              obtain ⟨rfl, rfl⟩ := h1
              refine G.aft [0, 1, 2, 3, 4, 5, 6, 7, 8] (ws' := [(lo, .inr (13, [.ref eo, .ref e1, .ref e2, .ref e3, .ref e4, .ref e5, .int (nI n), .int (nI z), .int sw])), (eo, aR k 3 6 (fun i9 => if i9 < 6 then some (er i9) else none)), ((er 0), aI k 6 (EN E 0)), ((er 1), aI k 6 (EN E 1)), ((er 2), aI k 6 (EN E 2)), ((er 3), aI k 6 (EN E 3)), ((er 4), aI k 6 (EN E 4)), ((er 5), aI k 6 (EN E 5)), (q1, aI k 30 (fun j9 => nI ((teO E n).1 j9)))]) (st' := [.int (bcI (nI s8))]) (cells' := 1 + ttC (n - 1) s8) (slots' := 30 + 6 * ttC (n - 1) s8) (g' := 1) (by decide) rfl rfl rfl rfl rfl ?_
              refine g_aload_n (pc := 81) C 0 rfl rfl dL_trees_81 ?_
              refine g_get (pc := 82) C (T := TXL) inXL 0 rfl rfl 6 (by decide) q_564 rfl rfl dL_trees_82 ?_
              refine g_iconst (pc := 85) (v := 1) C (by decide) dL_trees_85 ?_
              refine g_isub (pc := 86) C dL_trees_86 ?_
              refine G.eqs (st' := [.int (nI (n - 1)), .int (bcI (nI s8))]) (congrArg (β := List Value) (fun z9 => [.int z9, .int (bcI (nI s8))]) (show (((nI n) - 1) : Int32) = (nI (n - 1)) from (show nI n - nI 1 = nI (n - 1) from pk_sub h1))) ?_
              refine g_icmp_eq (pc := 87) C 93 (by decide) dL_trees_87 (fun c_87 => ?_) (fun c_87 => ?_)
              · refine g_bipush (pc := 93) (v := 6) C (by decide) dL_trees_93 ?_
                refine g_newI (pc := 95) (cells := 1 + ttC (n - 1) s8) (slots := 30 + 6 * ttC (n - 1) s8) (g := 1) C 6 q_4 (by decide) (by decide) (Nat.le_of_ble_eq_true rfl) (tc_room hP hl73).1 (tc_room hP hl73).2 dL_trees_95 (fun q2 => ?_)
                refine G.eqw (ws' := [(lo, .inr (13, [.ref eo, .ref e1, .ref e2, .ref e3, .ref e4, .ref e5, .int (nI n), .int (nI z), .int sw])), (eo, aR k 3 6 (fun i9 => if i9 < 6 then some (er i9) else none)), ((er 0), aI k 6 (EN E 0)), ((er 1), aI k 6 (EN E 1)), ((er 2), aI k 6 (EN E 2)), ((er 3), aI k 6 (EN E 3)), ((er 4), aI k 6 (EN E 4)), ((er 5), aI k 6 (EN E 5)), (q1, aI k 30 (fun j9 => nI ((teO E n).1 j9))), (q2, aI k 6 (fun _ => 0))]) rfl ?_
                refine g_dup (pc := 97) C rfl dL_trees_97 ?_
                refine g_iconst (pc := 98) (v := 0) C (by decide) dL_trees_98 ?_
                refine g_iconst (pc := 99) (v := 0) C (by decide) dL_trees_99 ?_
                refine g_iast_n (pc := 100) C (j := 0) 9 [(lo, .inr (13, [.ref eo, .ref e1, .ref e2, .ref e3, .ref e4, .ref e5, .int (nI n), .int (nI z), .int sw])), (eo, aR k 3 6 (fun i9 => if i9 < 6 then some (er i9) else none)), ((er 0), aI k 6 (EN E 0)), ((er 1), aI k 6 (EN E 1)), ((er 2), aI k 6 (EN E 2)), ((er 3), aI k 6 (EN E 3)), ((er 4), aI k 6 (EN E 4)), ((er 5), aI k 6 (EN E 5)), (q1, aI k 30 (fun j9 => nI ((teO E n).1 j9))), (q2, aI k 6 (upd (fun _ => 0) 0 0))] rfl (by omega) (by first | decide | omega) (by decide) rfl dL_trees_100 ?_
                refine g_dup (pc := 101) C rfl dL_trees_101 ?_
                refine g_iconst (pc := 102) (v := 1) C (by decide) dL_trees_102 ?_
                refine g_iconst (pc := 103) (v := 1) C (by decide) dL_trees_103 ?_
                refine g_iast_n (pc := 104) C (j := 1) 9 [(lo, .inr (13, [.ref eo, .ref e1, .ref e2, .ref e3, .ref e4, .ref e5, .int (nI n), .int (nI z), .int sw])), (eo, aR k 3 6 (fun i9 => if i9 < 6 then some (er i9) else none)), ((er 0), aI k 6 (EN E 0)), ((er 1), aI k 6 (EN E 1)), ((er 2), aI k 6 (EN E 2)), ((er 3), aI k 6 (EN E 3)), ((er 4), aI k 6 (EN E 4)), ((er 5), aI k 6 (EN E 5)), (q1, aI k 30 (fun j9 => nI ((teO E n).1 j9))), (q2, aI k 6 (upd (upd (fun _ => 0) 0 0) 1 1))] rfl (by omega) (by first | decide | omega) (by decide) rfl dL_trees_104 ?_
                refine g_dup (pc := 105) C rfl dL_trees_105 ?_
                refine g_iconst (pc := 106) (v := 2) C (by decide) dL_trees_106 ?_
                refine g_iconst (pc := 107) (v := 2) C (by decide) dL_trees_107 ?_
                refine g_iast_n (pc := 108) C (j := 2) 9 [(lo, .inr (13, [.ref eo, .ref e1, .ref e2, .ref e3, .ref e4, .ref e5, .int (nI n), .int (nI z), .int sw])), (eo, aR k 3 6 (fun i9 => if i9 < 6 then some (er i9) else none)), ((er 0), aI k 6 (EN E 0)), ((er 1), aI k 6 (EN E 1)), ((er 2), aI k 6 (EN E 2)), ((er 3), aI k 6 (EN E 3)), ((er 4), aI k 6 (EN E 4)), ((er 5), aI k 6 (EN E 5)), (q1, aI k 30 (fun j9 => nI ((teO E n).1 j9))), (q2, aI k 6 (upd (upd (upd (fun _ => 0) 0 0) 1 1) 2 2))] rfl (by omega) (by first | decide | omega) (by decide) rfl dL_trees_108 ?_
                refine g_dup (pc := 109) C rfl dL_trees_109 ?_
                refine g_iconst (pc := 110) (v := 3) C (by decide) dL_trees_110 ?_
                refine g_iconst (pc := 111) (v := 3) C (by decide) dL_trees_111 ?_
                refine g_iast_n (pc := 112) C (j := 3) 9 [(lo, .inr (13, [.ref eo, .ref e1, .ref e2, .ref e3, .ref e4, .ref e5, .int (nI n), .int (nI z), .int sw])), (eo, aR k 3 6 (fun i9 => if i9 < 6 then some (er i9) else none)), ((er 0), aI k 6 (EN E 0)), ((er 1), aI k 6 (EN E 1)), ((er 2), aI k 6 (EN E 2)), ((er 3), aI k 6 (EN E 3)), ((er 4), aI k 6 (EN E 4)), ((er 5), aI k 6 (EN E 5)), (q1, aI k 30 (fun j9 => nI ((teO E n).1 j9))), (q2, aI k 6 (upd (upd (upd (upd (fun _ => 0) 0 0) 1 1) 2 2) 3 3))] rfl (by omega) (by first | decide | omega) (by decide) rfl dL_trees_112 ?_
                refine g_dup (pc := 113) C rfl dL_trees_113 ?_
                refine g_iconst (pc := 114) (v := 4) C (by decide) dL_trees_114 ?_
                refine g_iconst (pc := 115) (v := 4) C (by decide) dL_trees_115 ?_
                refine g_iast_n (pc := 116) C (j := 4) 9 [(lo, .inr (13, [.ref eo, .ref e1, .ref e2, .ref e3, .ref e4, .ref e5, .int (nI n), .int (nI z), .int sw])), (eo, aR k 3 6 (fun i9 => if i9 < 6 then some (er i9) else none)), ((er 0), aI k 6 (EN E 0)), ((er 1), aI k 6 (EN E 1)), ((er 2), aI k 6 (EN E 2)), ((er 3), aI k 6 (EN E 3)), ((er 4), aI k 6 (EN E 4)), ((er 5), aI k 6 (EN E 5)), (q1, aI k 30 (fun j9 => nI ((teO E n).1 j9))), (q2, aI k 6 (upd (upd (upd (upd (upd (fun _ => 0) 0 0) 1 1) 2 2) 3 3) 4 4))] rfl (by omega) (by first | decide | omega) (by decide) rfl dL_trees_116 ?_
                refine g_dup (pc := 117) C rfl dL_trees_117 ?_
                refine g_iconst (pc := 118) (v := 5) C (by decide) dL_trees_118 ?_
                refine g_iconst (pc := 119) (v := 5) C (by decide) dL_trees_119 ?_
                refine g_iast_n (pc := 120) C (j := 5) 9 [(lo, .inr (13, [.ref eo, .ref e1, .ref e2, .ref e3, .ref e4, .ref e5, .int (nI n), .int (nI z), .int sw])), (eo, aR k 3 6 (fun i9 => if i9 < 6 then some (er i9) else none)), ((er 0), aI k 6 (EN E 0)), ((er 1), aI k 6 (EN E 1)), ((er 2), aI k 6 (EN E 2)), ((er 3), aI k 6 (EN E 3)), ((er 4), aI k 6 (EN E 4)), ((er 5), aI k 6 (EN E 5)), (q1, aI k 30 (fun j9 => nI ((teO E n).1 j9))), (q2, aI k 6 (upd (upd (upd (upd (upd (upd (fun _ => 0) 0 0) 1 1) 2 2) 3 3) 4 4) 5 5))] rfl (by omega) (by first | decide | omega) (by decide) rfl dL_trees_120 ?_
                refine g_astore (pc := 121) C [(6, .ref q2), (0, .ref lo), (1, .ref q1), (2, .int (nI (teO E n).2)), (3, .long (ttS E (teO E n).1 (teO E n).2 (n - 1) s8)), (5, .int (nI s8))] dL_trees_121 (by decide) rfl ?_
                refine g_lconst (pc := 123) (v := 1) C (by decide) dL_trees_123 ?_
                refine g_lstore (pc := 124) C [(7, .long 1), (6, .ref q2), (0, .ref lo), (1, .ref q1), (2, .int (nI (teO E n).2)), (3, .long (ttS E (teO E n).1 (teO E n).2 (n - 1) s8)), (5, .int (nI s8))] dL_trees_124 (by decide) rfl ?_
                refine g_iconst (pc := 126) (v := 0) C (by decide) dL_trees_126 ?_
                refine g_istore (pc := 127) C [(9, .int 0), (7, .long 1), (6, .ref q2), (0, .ref lo), (1, .ref q1), (2, .int (nI (teO E n).2)), (3, .long (ttS E (teO E n).1 (teO E n).2 (n - 1) s8)), (5, .int (nI s8))] dL_trees_127 (by decide) rfl ?_
                have key_129 : ∀ (fuel : Nat) (q8 : Nat), q8 ≤ (teO E n).2 → (teO E n).2 - q8 < fuel → G p9 l e9 { frames := 1, cells := 32800, slots := 196700, locals := 20 } s9 m9 ([.ref lo] : List Value).toArray bl9 me9 co9 D 13 (va_A [(lo, .inr (13, [.ref eo, .ref e1, .ref e2, .ref e3, .ref e4, .ref e5, .int (nI n), .int (nI z), .int sw])), (eo, aR k 3 6 (fun i9 => if i9 < 6 then some (er i9) else none)), ((er 0), aI k 6 (EN E 0)), ((er 1), aI k 6 (EN E 1)), ((er 2), aI k 6 (EN E 2)), ((er 3), aI k 6 (EN E 3)), ((er 4), aI k 6 (EN E 4)), ((er 5), aI k 6 (EN E 5))] s9.heap.size) (QM bl9 D ([.ref lo] : List Value).toArray s9 [(lo, .inr (13, [.ref eo, .ref e1, .ref e2, .ref e3, .ref e4, .ref e5, .int (nI n), .int (nI z), .int sw])), (eo, aR k 3 6 (fun i9 => if i9 < 6 then some (er i9) else none)), ((er 0), aI k 6 (EN E 0)), ((er 1), aI k 6 (EN E 1)), ((er 2), aI k 6 (EN E 2)), ((er 3), aI k 6 (EN E 3)), ((er 4), aI k 6 (EN E 4)), ((er 5), aI k 6 (EN E 5))] (is1 (some (.long (if n = 1 then 1 else ttV E n))) [(lo, .inr (13, [.ref eo, .ref e1, .ref e2, .ref e3, .ref e4, .ref e5, .int (nI n), .int (nI z), .int sw])), (eo, aR k 3 6 (fun i9 => if i9 < 6 then some (er i9) else none)), ((er 0), aI k 6 (EN E 0)), ((er 1), aI k 6 (EN E 1)), ((er 2), aI k 6 (EN E 2)), ((er 3), aI k 6 (EN E 3)), ((er 4), aI k 6 (EN E 4)), ((er 5), aI k 6 (EN E 5))]) 32800 196700 0) [(lo, .inr (13, [.ref eo, .ref e1, .ref e2, .ref e3, .ref e4, .ref e5, .int (nI n), .int (nI z), .int sw])), (eo, aR k 3 6 (fun i9 => if i9 < 6 then some (er i9) else none)), ((er 0), aI k 6 (EN E 0)), ((er 1), aI k 6 (EN E 1)), ((er 2), aI k 6 (EN E 2)), ((er 3), aI k 6 (EN E 3)), ((er 4), aI k 6 (EN E 4)), ((er 5), aI k 6 (EN E 5)), (q1, aI k 30 (fun j9 => nI ((teO E n).1 j9))), (q2, aI k 6 (fun j9 => nI ((tpS E (teO E n).1 s8 q8).1 j9)))] [(0, .ref lo), (1, .ref q1), (2, .int (nI (teO E n).2)), (3, .long (ttS E (teO E n).1 (teO E n).2 (n - 1) s8)), (5, .int (nI s8)), (6, .ref q2), (7, .long ((tpS E (teO E n).1 s8 q8).2)), (9, .int (nI q8))] (1 + ttC (n - 1) s8 + 1) (30 + 6 * ttC (n - 1) s8 + 6) (1 + 1) 129 [] := by
                  intro fuel
                  induction fuel with
                  | zero => intro q8 hq8 hm; exact absurd hm (Nat.not_lt_zero _)
                  | succ fuel ih =>
                    intro q8 hq8 hm
                    have ih_129 := ih
                    refine g_iload (pc := 129) C 7 rfl dL_trees_129 ?_
                    refine g_iload_n (pc := 131) C 2 rfl rfl dL_trees_131 ?_
                    refine g_icmp_ge (pc := 132) C 256 (by decide) dL_trees_132 (fun c_132 => ?_) (fun c_132 => ?_)
                    · have h7 : q8 = (teO E n).2 := by { have := nle_ge (b := (teO E n).2) (a := q8) (by omega) c_132; omega }
                      refine g_lload_n (pc := 256) C 3 rfl rfl dL_trees_256 ?_
                      refine g_lload (pc := 257) C 6 rfl dL_trees_257 ?_
                      refine g_ladd (pc := 259) C dL_trees_259 ?_
                      refine g_lstore_n (pc := 260) C [(3, .long ((ttS E (teO E n).1 (teO E n).2 (n - 1) s8) + ((tpS E (teO E n).1 s8 q8).2))), (0, .ref lo), (1, .ref q1), (2, .int (nI (teO E n).2)), (5, .int (nI s8)), (6, .ref q2), (7, .long ((tpS E (teO E n).1 s8 q8).2)), (9, .int (nI q8))] rfl dL_trees_260 (by decide) rfl ?_
                      refine g_iinc (pc := 261) (n := 1) (v := (nI (s8 + 1))) C 4 [(5, .int (nI (s8 + 1))), (3, .long ((ttS E (teO E n).1 (teO E n).2 (n - 1) s8) + ((tpS E (teO E n).1 s8 q8).2))), (0, .ref lo), (1, .ref q1), (2, .int (nI (teO E n).2)), (6, .ref q2), (7, .long ((tpS E (teO E n).1 s8 q8).2)), (9, .int (nI q8))] rfl (nI_1 s8) dL_trees_261 (by decide) rfl ?_
                      refine g_goto (pc := 264) C 68 (by decide) dL_trees_264 ?_
                      refine G.re [0, 1, 2, 3, 4, 5, 6, 7, 8] (ws' := [(lo, .inr (13, [.ref eo, .ref e1, .ref e2, .ref e3, .ref e4, .ref e5, .int (nI n), .int (nI z), .int sw])), (eo, aR k 3 6 (fun i9 => if i9 < 6 then some (er i9) else none)), ((er 0), aI k 6 (EN E 0)), ((er 1), aI k 6 (EN E 1)), ((er 2), aI k 6 (EN E 2)), ((er 3), aI k 6 (EN E 3)), ((er 4), aI k 6 (EN E 4)), ((er 5), aI k 6 (EN E 5)), (q1, aI k 30 (fun j9 => nI ((teO E n).1 j9)))]) (by decide) rfl ?_
                      refine G.loc [2, 3, 4, 1, 0] (lv' := [(0, .ref lo), (1, .ref q1), (2, .int (nI (teO E n).2)), (3, .long ((ttS E (teO E n).1 (teO E n).2 (n - 1) s8) + ((tpS E (teO E n).1 s8 q8).2))), (5, .int (nI (s8 + 1)))]) rfl ?_
                      refine G.eql (lv' := [(0, .ref lo), (1, .ref q1), (2, .int (nI (teO E n).2)), (3, .long (ttS E (teO E n).1 (teO E n).2 (n - 1) (s8 + 1))), (5, .int (nI (s8 + 1)))]) (congrArg (β := List (Nat × Value)) (fun z9 => [(0, .ref lo), (1, .ref q1), (2, .int (nI (teO E n).2)), (3, .long z9), (5, .int (nI (s8 + 1)))]) (show (((ttS E (teO E n).1 (teO E n).2 (n - 1) s8) + ((tpS E (teO E n).1 s8 q8).2)) : Int64) = (ttS E (teO E n).1 (teO E n).2 (n - 1) (s8 + 1)) from by first | rfl | (rw [tt_n c_87]) | (rw [tt_y c_87, h7]; try rfl))) ?_
                      refine G.widen (k' := 1 + ttC (n - 1) (s8 + 1)) (n' := 30 + 6 * ttC (n - 1) (s8 + 1)) (g' := 1) (by first | exact Nat.le_refl _ | (rw [tc_n c_87]; exact Nat.le_refl _) | (rw [tc_y c_87]; omega) | omega | decide) (by first | exact Nat.le_refl _ | (rw [tc_n c_87]; exact Nat.le_refl _) | (rw [tc_y c_87]; omega) | omega | decide) (by first | exact Nat.le_refl _ | (rw [tc_n c_87]; exact Nat.le_refl _) | (rw [tc_y c_87]; omega) | omega | decide) ?_
                      exact ih_68 (s8 + 1) (by omega) (by omega)
                    · have hl132 : q8 < (teO E n).2 := nle_lt (by omega) c_132
                      have heb := teO_bd (E := E) n hn q8 hl132
                      have htb := tp_bd (E := E) (s := s8) (teO_bd (E := E) n hn) q8 (by omega)
                      refine g_iload (pc := 135) C 4 rfl dL_trees_135 ?_
                      refine g_iload (pc := 137) C 7 rfl dL_trees_137 ?_
                      refine g_ishr (pc := 139) C dL_trees_139 ?_
                      refine g_iconst (pc := 140) (v := 1) C (by decide) dL_trees_140 ?_
                      refine g_iand (pc := 141) C dL_trees_141 ?_
                      refine g_if_ne (pc := 142) C 148 (by decide) dL_trees_142 (fun c_142 => ?_) (fun c_142 => ?_)
                      · refine g_aload (pc := 148) C 5 rfl dL_trees_148 ?_
                        refine g_aload_n (pc := 150) C 1 rfl rfl dL_trees_150 ?_
                        refine g_iload (pc := 151) C 7 rfl dL_trees_151 ?_
                        refine g_iald_n (pc := 153) C (j := q8) 8 rfl (by omega) (by first | decide | omega) rfl dL_trees_153 ?_
                        refine g_bipush (pc := 154) (v := 6) C (by decide) dL_trees_154 ?_
                        refine g_idiv (pc := 156) C (by first | assumption | decide) dL_trees_156 ?_
                        refine G.eqs (st' := [.int (nI ((teO E n).1 q8 / 6)), .ref q2]) (congrArg (β := List Value) (fun z9 => [.int z9, .ref q2]) (show ((((fun j9 => nI ((teO E n).1 j9)) q8) / 6) : Int32) = (nI ((teO E n).1 q8 / 6)) from (pk_div (a := (teO E n).1 q8) (d := 6) (by omega) (by omega) (by omega)))) ?_
                        refine g_iald_n (pc := 157) C (j := ((teO E n).1 q8 / 6)) 9 rfl (by omega) (by first | decide | omega) rfl dL_trees_157 ?_
                        refine G.eqs (st' := [.int (nI ((tpS E (teO E n).1 s8 q8).1 ((teO E n).1 q8 / 6)))]) (congrArg (β := List Value) (fun z9 => [.int z9]) (show (((fun j9 => nI ((tpS E (teO E n).1 s8 q8).1 j9)) ((teO E n).1 q8 / 6)) : Int32) = (nI ((tpS E (teO E n).1 s8 q8).1 ((teO E n).1 q8 / 6))) from rfl)) ?_
                        refine g_istore (pc := 158) C [(10, .int (nI ((tpS E (teO E n).1 s8 q8).1 ((teO E n).1 q8 / 6)))), (0, .ref lo), (1, .ref q1), (2, .int (nI (teO E n).2)), (3, .long (ttS E (teO E n).1 (teO E n).2 (n - 1) s8)), (5, .int (nI s8)), (6, .ref q2), (7, .long ((tpS E (teO E n).1 s8 q8).2)), (9, .int (nI q8))] dL_trees_158 (by decide) rfl ?_
                        refine g_aload (pc := 160) C 6 rfl dL_trees_160 ?_
                        refine g_aload_n (pc := 162) C 2 rfl rfl dL_trees_162 ?_
                        refine g_iload (pc := 163) C 8 rfl dL_trees_163 ?_
                        refine g_iald_n (pc := 165) C (j := q8) 8 rfl (by omega) (by first | decide | omega) rfl dL_trees_165 ?_
                        refine g_bipush (pc := 166) (v := 6) C (by decide) dL_trees_166 ?_
                        refine g_irem (pc := 168) C (by first | assumption | decide) dL_trees_168 ?_
                        refine G.eqs (st' := [.int (nI ((teO E n).1 q8 % 6)), .ref q2]) (congrArg (β := List Value) (fun z9 => [.int z9, .ref q2]) (show ((((fun j9 => nI ((teO E n).1 j9)) q8) - ((fun j9 => nI ((teO E n).1 j9)) q8) / 6 * 6) : Int32) = (nI ((teO E n).1 q8 % 6)) from (pk_rem (a := (teO E n).1 q8) (d := 6) (by omega) (by omega) (by omega)))) ?_
                        refine g_iald_n (pc := 169) C (j := ((teO E n).1 q8 % 6)) 9 rfl (by omega) (by first | decide | omega) rfl dL_trees_169 ?_
                        refine G.eqs (st' := [.int (nI ((tpS E (teO E n).1 s8 q8).1 ((teO E n).1 q8 % 6)))]) (congrArg (β := List Value) (fun z9 => [.int z9]) (show (((fun j9 => nI ((tpS E (teO E n).1 s8 q8).1 j9)) ((teO E n).1 q8 % 6)) : Int32) = (nI ((tpS E (teO E n).1 s8 q8).1 ((teO E n).1 q8 % 6))) from rfl)) ?_
                        refine g_istore (pc := 170) C [(11, .int (nI ((tpS E (teO E n).1 s8 q8).1 ((teO E n).1 q8 % 6)))), (10, .int (nI ((tpS E (teO E n).1 s8 q8).1 ((teO E n).1 q8 / 6)))), (0, .ref lo), (1, .ref q1), (2, .int (nI (teO E n).2)), (3, .long (ttS E (teO E n).1 (teO E n).2 (n - 1) s8)), (5, .int (nI s8)), (6, .ref q2), (7, .long ((tpS E (teO E n).1 s8 q8).2)), (9, .int (nI q8))] dL_trees_170 (by decide) rfl ?_
                        refine g_lload (pc := 172) C 8 rfl dL_trees_172 ?_
                        refine g_iload (pc := 174) C 1 rfl dL_trees_174 ?_
                        refine g_iload (pc := 176) C 0 rfl dL_trees_176 ?_
                        refine g_icmp_ne (pc := 178) C 185 (by decide) dL_trees_178 (fun c_178 => ?_) (fun c_178 => ?_)
                        · have c178 : ¬ ((tpS E (teO E n).1 s8 q8).1 ((teO E n).1 q8 / 6)) = ((tpS E (teO E n).1 s8 q8).1 ((teO E n).1 q8 % 6)) := fun q => c_178 (by rw [q])
                          refine g_aload_n (pc := 185) C 2 rfl rfl dL_trees_185 ?_
                          refine g_get (pc := 186) C (T := TXL) inXL 0 rfl rfl 0 (by decide) q_561 rfl rfl dL_trees_186 ?_
                          refine g_aload_n (pc := 189) C 3 rfl rfl dL_trees_189 ?_
                          refine g_iload (pc := 190) C 9 rfl dL_trees_190 ?_
                          refine g_iald_n (pc := 192) C (j := q8) 8 rfl (by omega) (by first | decide | omega) rfl dL_trees_192 ?_
                          refine g_bipush (pc := 193) (v := 6) C (by decide) dL_trees_193 ?_
                          refine g_idiv (pc := 195) C (by first | assumption | decide) dL_trees_195 ?_
                          refine G.eqs (st' := [.int (nI ((teO E n).1 q8 / 6)), .ref eo, .long ((tpS E (teO E n).1 s8 q8).2)]) (congrArg (β := List Value) (fun z9 => [.int z9, .ref eo, .long ((tpS E (teO E n).1 s8 q8).2)]) (show ((((fun j9 => nI ((teO E n).1 j9)) q8) / 6) : Int32) = (nI ((teO E n).1 q8 / 6)) from (pk_div (a := (teO E n).1 q8) (d := 6) (by omega) (by omega) (by omega)))) ?_
                          refine g_aald (pc := 196) C (j := ((teO E n).1 q8 / 6)) (b := er ((teO E n).1 q8 / 6)) 1 rfl (by omega) (by decide) rfl (if_pos (by omega)) dL_trees_196 ?_
                          refine g_aload_n (pc := 197) C 3 rfl rfl dL_trees_197 ?_
                          refine g_iload (pc := 198) C 9 rfl dL_trees_198 ?_
                          refine g_iald_n (pc := 200) C (j := q8) 8 rfl (by omega) (by first | decide | omega) rfl dL_trees_200 ?_
                          refine g_bipush (pc := 201) (v := 6) C (by decide) dL_trees_201 ?_
                          refine g_irem (pc := 203) C (by first | assumption | decide) dL_trees_203 ?_
                          refine G.eqs (st' := [.int (nI ((teO E n).1 q8 % 6)), .ref (er ((teO E n).1 q8 / 6)), .long ((tpS E (teO E n).1 s8 q8).2)]) (congrArg (β := List Value) (fun z9 => [.int z9, .ref (er ((teO E n).1 q8 / 6)), .long ((tpS E (teO E n).1 s8 q8).2)]) (show ((((fun j9 => nI ((teO E n).1 j9)) q8) - ((fun j9 => nI ((teO E n).1 j9)) q8) / 6 * 6) : Int32) = (nI ((teO E n).1 q8 % 6)) from (pk_rem (a := (teO E n).1 q8) (d := 6) (by omega) (by omega) (by omega)))) ?_
                          refine g_iald_n (pc := 204) (a := (er ((teO E n).1 q8 / 6))) (n := 6) (f := (EN E ((teO E n).1 q8 / 6))) C (j := ((teO E n).1 q8 % 6)) (2 + ((teO E n).1 q8 / 6)) (by rcases (show ((teO E n).1 q8 / 6) = 0 ∨ ((teO E n).1 q8 / 6) = 1 ∨ ((teO E n).1 q8 / 6) = 2 ∨ ((teO E n).1 q8 / 6) = 3 ∨ ((teO E n).1 q8 / 6) = 4 ∨ ((teO E n).1 q8 / 6) = 5 by omega) with h9 | h9 | h9 | h9 | h9 | h9 <;> rw [h9] <;> rfl) (by omega) (by first | decide | omega) rfl dL_trees_204 ?_
                          refine g_i2l (pc := 205) C dL_trees_205 ?_
                          refine g_lmul (pc := 206) C dL_trees_206 ?_
                          refine g_lstore (pc := 207) C [(7, .long (((tpS E (teO E n).1 s8 q8).2) * (((EN E ((teO E n).1 q8 / 6)) ((teO E n).1 q8 % 6)).toInt64))), (11, .int (nI ((tpS E (teO E n).1 s8 q8).1 ((teO E n).1 q8 % 6)))), (10, .int (nI ((tpS E (teO E n).1 s8 q8).1 ((teO E n).1 q8 / 6)))), (0, .ref lo), (1, .ref q1), (2, .int (nI (teO E n).2)), (3, .long (ttS E (teO E n).1 (teO E n).2 (n - 1) s8)), (5, .int (nI s8)), (6, .ref q2), (9, .int (nI q8))] dL_trees_207 (by decide) rfl ?_
                          refine g_iconst (pc := 209) (v := 0) C (by decide) dL_trees_209 ?_
                          refine g_istore (pc := 210) C [(12, .int 0), (7, .long (((tpS E (teO E n).1 s8 q8).2) * (((EN E ((teO E n).1 q8 / 6)) ((teO E n).1 q8 % 6)).toInt64))), (11, .int (nI ((tpS E (teO E n).1 s8 q8).1 ((teO E n).1 q8 % 6)))), (10, .int (nI ((tpS E (teO E n).1 s8 q8).1 ((teO E n).1 q8 / 6)))), (0, .ref lo), (1, .ref q1), (2, .int (nI (teO E n).2)), (3, .long (ttS E (teO E n).1 (teO E n).2 (n - 1) s8)), (5, .int (nI s8)), (6, .ref q2), (9, .int (nI q8))] dL_trees_210 (by decide) rfl ?_
                          have key_212 : ∀ (fuel : Nat) (w6 : Nat), w6 ≤ 6 → 6 - w6 < fuel → G p9 l e9 { frames := 1, cells := 32800, slots := 196700, locals := 20 } s9 m9 ([.ref lo] : List Value).toArray bl9 me9 co9 D 13 (va_A [(lo, .inr (13, [.ref eo, .ref e1, .ref e2, .ref e3, .ref e4, .ref e5, .int (nI n), .int (nI z), .int sw])), (eo, aR k 3 6 (fun i9 => if i9 < 6 then some (er i9) else none)), ((er 0), aI k 6 (EN E 0)), ((er 1), aI k 6 (EN E 1)), ((er 2), aI k 6 (EN E 2)), ((er 3), aI k 6 (EN E 3)), ((er 4), aI k 6 (EN E 4)), ((er 5), aI k 6 (EN E 5))] s9.heap.size) (QM bl9 D ([.ref lo] : List Value).toArray s9 [(lo, .inr (13, [.ref eo, .ref e1, .ref e2, .ref e3, .ref e4, .ref e5, .int (nI n), .int (nI z), .int sw])), (eo, aR k 3 6 (fun i9 => if i9 < 6 then some (er i9) else none)), ((er 0), aI k 6 (EN E 0)), ((er 1), aI k 6 (EN E 1)), ((er 2), aI k 6 (EN E 2)), ((er 3), aI k 6 (EN E 3)), ((er 4), aI k 6 (EN E 4)), ((er 5), aI k 6 (EN E 5))] (is1 (some (.long (if n = 1 then 1 else ttV E n))) [(lo, .inr (13, [.ref eo, .ref e1, .ref e2, .ref e3, .ref e4, .ref e5, .int (nI n), .int (nI z), .int sw])), (eo, aR k 3 6 (fun i9 => if i9 < 6 then some (er i9) else none)), ((er 0), aI k 6 (EN E 0)), ((er 1), aI k 6 (EN E 1)), ((er 2), aI k 6 (EN E 2)), ((er 3), aI k 6 (EN E 3)), ((er 4), aI k 6 (EN E 4)), ((er 5), aI k 6 (EN E 5))]) 32800 196700 0) [(lo, .inr (13, [.ref eo, .ref e1, .ref e2, .ref e3, .ref e4, .ref e5, .int (nI n), .int (nI z), .int sw])), (eo, aR k 3 6 (fun i9 => if i9 < 6 then some (er i9) else none)), ((er 0), aI k 6 (EN E 0)), ((er 1), aI k 6 (EN E 1)), ((er 2), aI k 6 (EN E 2)), ((er 3), aI k 6 (EN E 3)), ((er 4), aI k 6 (EN E 4)), ((er 5), aI k 6 (EN E 5)), (q1, aI k 30 (fun j9 => nI ((teO E n).1 j9))), (q2, aI k 6 (fun j9 => nI ((fun v9 => if v9 < w6 ∧ (tpS E (teO E n).1 s8 q8).1 v9 = ((tpS E (teO E n).1 s8 q8).1 ((teO E n).1 q8 / 6)) then ((tpS E (teO E n).1 s8 q8).1 ((teO E n).1 q8 % 6)) else (tpS E (teO E n).1 s8 q8).1 v9) j9)))] [(0, .ref lo), (1, .ref q1), (2, .int (nI (teO E n).2)), (3, .long (ttS E (teO E n).1 (teO E n).2 (n - 1) s8)), (5, .int (nI s8)), (6, .ref q2), (7, .long (((tpS E (teO E n).1 s8 q8).2) * (((EN E ((teO E n).1 q8 / 6)) ((teO E n).1 q8 % 6)).toInt64))), (9, .int (nI q8)), (10, .int (nI ((tpS E (teO E n).1 s8 q8).1 ((teO E n).1 q8 / 6)))), (11, .int (nI ((tpS E (teO E n).1 s8 q8).1 ((teO E n).1 q8 % 6)))), (12, .int (nI w6))] (1 + ttC (n - 1) s8 + 1) (30 + 6 * ttC (n - 1) s8 + 6) (1 + 1) 212 [] := by
                            intro fuel
                            induction fuel with
                            | zero => intro w6 hw6 hm; exact absurd hm (Nat.not_lt_zero _)
                            | succ fuel ih =>
                              intro w6 hw6 hm
                              have ih_212 := ih
                              refine g_iload (pc := 212) C 10 rfl dL_trees_212 ?_
                              refine g_bipush (pc := 214) (v := 6) C (by decide) dL_trees_214 ?_
                              refine g_icmp_ge (pc := 216) C 250 (by decide) dL_trees_216 (fun c_216 => ?_) (fun c_216 => ?_)
                              · have h6 : w6 = 6 := by { have := nle_ge (b := 6) (a := w6) (by omega) c_216; omega }
                                refine g_iinc (pc := 250) (n := 1) (v := (nI (q8 + 1))) C 7 [(9, .int (nI (q8 + 1))), (0, .ref lo), (1, .ref q1), (2, .int (nI (teO E n).2)), (3, .long (ttS E (teO E n).1 (teO E n).2 (n - 1) s8)), (5, .int (nI s8)), (6, .ref q2), (7, .long (((tpS E (teO E n).1 s8 q8).2) * (((EN E ((teO E n).1 q8 / 6)) ((teO E n).1 q8 % 6)).toInt64))), (10, .int (nI ((tpS E (teO E n).1 s8 q8).1 ((teO E n).1 q8 / 6)))), (11, .int (nI ((tpS E (teO E n).1 s8 q8).1 ((teO E n).1 q8 % 6)))), (12, .int (nI w6))] rfl (nI_1 q8) dL_trees_250 (by decide) rfl ?_
                                refine g_goto (pc := 253) C 129 (by decide) dL_trees_253 ?_
                                refine G.loc [1, 2, 3, 4, 5, 6, 7, 0] (lv' := [(0, .ref lo), (1, .ref q1), (2, .int (nI (teO E n).2)), (3, .long (ttS E (teO E n).1 (teO E n).2 (n - 1) s8)), (5, .int (nI s8)), (6, .ref q2), (7, .long (((tpS E (teO E n).1 s8 q8).2) * (((EN E ((teO E n).1 q8 / 6)) ((teO E n).1 q8 % 6)).toInt64))), (9, .int (nI (q8 + 1)))]) rfl ?_
                                refine G.fn (fun j9 => nI ((tpS E (teO E n).1 s8 (q8 + 1)).1 j9)) 9 [(lo, .inr (13, [.ref eo, .ref e1, .ref e2, .ref e3, .ref e4, .ref e5, .int (nI n), .int (nI z), .int sw])), (eo, aR k 3 6 (fun i9 => if i9 < 6 then some (er i9) else none)), ((er 0), aI k 6 (EN E 0)), ((er 1), aI k 6 (EN E 1)), ((er 2), aI k 6 (EN E 2)), ((er 3), aI k 6 (EN E 3)), ((er 4), aI k 6 (EN E 4)), ((er 5), aI k 6 (EN E 5)), (q1, aI k 30 (fun j9 => nI ((teO E n).1 j9))), (q2, aI k 6 (fun j9 => nI ((tpS E (teO E n).1 s8 (q8 + 1)).1 j9)))] rfl (fun j hj => by first | (rw [tp_n c_142]) | (rw [h6]; exact tp_w c_142 hj)) rfl ?_
                                refine G.eql (lv' := [(0, .ref lo), (1, .ref q1), (2, .int (nI (teO E n).2)), (3, .long (ttS E (teO E n).1 (teO E n).2 (n - 1) s8)), (5, .int (nI s8)), (6, .ref q2), (7, .long ((tpS E (teO E n).1 s8 (q8 + 1)).2)), (9, .int (nI (q8 + 1)))]) (congrArg (β := List (Nat × Value)) (fun z9 => [(0, .ref lo), (1, .ref q1), (2, .int (nI (teO E n).2)), (3, .long (ttS E (teO E n).1 (teO E n).2 (n - 1) s8)), (5, .int (nI s8)), (6, .ref q2), (7, .long z9), (9, .int (nI (q8 + 1)))]) (show ((((tpS E (teO E n).1 s8 q8).2) * (((EN E ((teO E n).1 q8 / 6)) ((teO E n).1 q8 % 6)).toInt64)) : Int64) = (tpS E (teO E n).1 s8 (q8 + 1)).2 from by first | rfl | (rw [tp_n c_142]) | (rw [tp_y0 c_142 c178]) | (rw [tp_y1 c_142 c178]; try rfl))) ?_
                                exact ih_129 (q8 + 1) (by omega) (by omega)
                              · have hl216 : w6 < 6 := nle_lt (by omega) c_216
                                have hbx := htb w6 hl216
                                have hby := htb ((teO E n).1 q8 / 6) (by omega)
                                refine g_aload (pc := 219) C 5 rfl dL_trees_219 ?_
                                refine g_iload (pc := 221) C 10 rfl dL_trees_221 ?_
                                refine g_aload (pc := 223) C 5 rfl dL_trees_223 ?_
                                refine g_iload (pc := 225) C 10 rfl dL_trees_225 ?_
                                refine g_iald_n (pc := 227) C (j := w6) 9 rfl (by omega) (by first | decide | omega) rfl dL_trees_227 ?_
                                refine G.eqs (st' := [.int (nI ((fun v9 => if v9 < w6 ∧ (tpS E (teO E n).1 s8 q8).1 v9 = ((tpS E (teO E n).1 s8 q8).1 ((teO E n).1 q8 / 6)) then ((tpS E (teO E n).1 s8 q8).1 ((teO E n).1 q8 % 6)) else (tpS E (teO E n).1 s8 q8).1 v9) w6)), .int (nI w6), .ref q2]) (congrArg (β := List Value) (fun z9 => [.int z9, .int (nI w6), .ref q2]) (show (((fun j9 => nI ((fun v9 => if v9 < w6 ∧ (tpS E (teO E n).1 s8 q8).1 v9 = ((tpS E (teO E n).1 s8 q8).1 ((teO E n).1 q8 / 6)) then ((tpS E (teO E n).1 s8 q8).1 ((teO E n).1 q8 % 6)) else (tpS E (teO E n).1 s8 q8).1 v9) j9)) w6) : Int32) = (nI ((fun v9 => if v9 < w6 ∧ (tpS E (teO E n).1 s8 q8).1 v9 = ((tpS E (teO E n).1 s8 q8).1 ((teO E n).1 q8 / 6)) then ((tpS E (teO E n).1 s8 q8).1 ((teO E n).1 q8 % 6)) else (tpS E (teO E n).1 s8 q8).1 v9) w6)) from rfl)) ?_
                                refine g_iload (pc := 228) C 8 rfl dL_trees_228 ?_
                                refine G.eqs (st' := [.int (nI ((tpS E (teO E n).1 s8 q8).1 ((teO E n).1 q8 / 6))), .int (nI ((fun v9 => if v9 < w6 ∧ (tpS E (teO E n).1 s8 q8).1 v9 = ((tpS E (teO E n).1 s8 q8).1 ((teO E n).1 q8 / 6)) then ((tpS E (teO E n).1 s8 q8).1 ((teO E n).1 q8 % 6)) else (tpS E (teO E n).1 s8 q8).1 v9) w6)), .int (nI w6), .ref q2]) (congrArg (β := List Value) (fun z9 => [.int z9, .int (nI ((fun v9 => if v9 < w6 ∧ (tpS E (teO E n).1 s8 q8).1 v9 = ((tpS E (teO E n).1 s8 q8).1 ((teO E n).1 q8 / 6)) then ((tpS E (teO E n).1 s8 q8).1 ((teO E n).1 q8 % 6)) else (tpS E (teO E n).1 s8 q8).1 v9) w6)), .int (nI w6), .ref q2]) (show ((nI ((tpS E (teO E n).1 s8 q8).1 ((teO E n).1 q8 / 6))) : Int32) = (nI ((tpS E (teO E n).1 s8 q8).1 ((teO E n).1 q8 / 6))) from rfl)) ?_
                                refine g_icmp_ne (pc := 230) C 238 (by decide) dL_trees_230 (fun c_230 => ?_) (fun c_230 => ?_)
                                · have c230 : ¬ (tpS E (teO E n).1 s8 q8).1 w6 = ((tpS E (teO E n).1 s8 q8).1 ((teO E n).1 q8 / 6)) := (fun q => c_230 (by show nI (if _ then _ else _) = _; rw [if_neg (fun q2 => absurd q2.1 (Nat.lt_irrefl _)), q]))
                                  refine g_aload (pc := 238) C 5 rfl dL_trees_238 ?_
                                  refine g_iload (pc := 240) C 10 rfl dL_trees_240 ?_
                                  refine g_iald_n (pc := 242) C (j := w6) 9 rfl (by omega) (by first | decide | omega) rfl dL_trees_242 ?_
                                  refine g_iast_n (pc := 243) C (j := w6) 9 [(lo, .inr (13, [.ref eo, .ref e1, .ref e2, .ref e3, .ref e4, .ref e5, .int (nI n), .int (nI z), .int sw])), (eo, aR k 3 6 (fun i9 => if i9 < 6 then some (er i9) else none)), ((er 0), aI k 6 (EN E 0)), ((er 1), aI k 6 (EN E 1)), ((er 2), aI k 6 (EN E 2)), ((er 3), aI k 6 (EN E 3)), ((er 4), aI k 6 (EN E 4)), ((er 5), aI k 6 (EN E 5)), (q1, aI k 30 (fun j9 => nI ((teO E n).1 j9))), (q2, aI k 6 (upd (fun j9 => nI ((fun v9 => if v9 < w6 ∧ (tpS E (teO E n).1 s8 q8).1 v9 = ((tpS E (teO E n).1 s8 q8).1 ((teO E n).1 q8 / 6)) then ((tpS E (teO E n).1 s8 q8).1 ((teO E n).1 q8 % 6)) else (tpS E (teO E n).1 s8 q8).1 v9) j9)) w6 ((fun j9 => nI ((fun v9 => if v9 < w6 ∧ (tpS E (teO E n).1 s8 q8).1 v9 = ((tpS E (teO E n).1 s8 q8).1 ((teO E n).1 q8 / 6)) then ((tpS E (teO E n).1 s8 q8).1 ((teO E n).1 q8 % 6)) else (tpS E (teO E n).1 s8 q8).1 v9) j9)) w6)))] rfl (by omega) (by first | decide | omega) rfl rfl dL_trees_243 ?_
                                  refine g_iinc (pc := 244) (n := 1) (v := (nI (w6 + 1))) C 10 [(12, .int (nI (w6 + 1))), (0, .ref lo), (1, .ref q1), (2, .int (nI (teO E n).2)), (3, .long (ttS E (teO E n).1 (teO E n).2 (n - 1) s8)), (5, .int (nI s8)), (6, .ref q2), (7, .long (((tpS E (teO E n).1 s8 q8).2) * (((EN E ((teO E n).1 q8 / 6)) ((teO E n).1 q8 % 6)).toInt64))), (9, .int (nI q8)), (10, .int (nI ((tpS E (teO E n).1 s8 q8).1 ((teO E n).1 q8 / 6)))), (11, .int (nI ((tpS E (teO E n).1 s8 q8).1 ((teO E n).1 q8 % 6))))] rfl (nI_1 w6) dL_trees_244 (by decide) rfl ?_
                                  refine g_goto (pc := 247) C 212 (by decide) dL_trees_247 ?_
                                  refine G.loc [1, 2, 3, 4, 5, 6, 7, 8, 9, 10, 0] (lv' := [(0, .ref lo), (1, .ref q1), (2, .int (nI (teO E n).2)), (3, .long (ttS E (teO E n).1 (teO E n).2 (n - 1) s8)), (5, .int (nI s8)), (6, .ref q2), (7, .long (((tpS E (teO E n).1 s8 q8).2) * (((EN E ((teO E n).1 q8 / 6)) ((teO E n).1 q8 % 6)).toInt64))), (9, .int (nI q8)), (10, .int (nI ((tpS E (teO E n).1 s8 q8).1 ((teO E n).1 q8 / 6)))), (11, .int (nI ((tpS E (teO E n).1 s8 q8).1 ((teO E n).1 q8 % 6)))), (12, .int (nI (w6 + 1)))]) rfl ?_
                                  refine G.fn (fun j9 => nI ((fun v9 => if v9 < (w6 + 1) ∧ (tpS E (teO E n).1 s8 q8).1 v9 = ((tpS E (teO E n).1 s8 q8).1 ((teO E n).1 q8 / 6)) then ((tpS E (teO E n).1 s8 q8).1 ((teO E n).1 q8 % 6)) else (tpS E (teO E n).1 s8 q8).1 v9) j9)) 9 [(lo, .inr (13, [.ref eo, .ref e1, .ref e2, .ref e3, .ref e4, .ref e5, .int (nI n), .int (nI z), .int sw])), (eo, aR k 3 6 (fun i9 => if i9 < 6 then some (er i9) else none)), ((er 0), aI k 6 (EN E 0)), ((er 1), aI k 6 (EN E 1)), ((er 2), aI k 6 (EN E 2)), ((er 3), aI k 6 (EN E 3)), ((er 4), aI k 6 (EN E 4)), ((er 5), aI k 6 (EN E 5)), (q1, aI k 30 (fun j9 => nI ((teO E n).1 j9))), (q2, aI k 6 (fun j9 => nI ((fun v9 => if v9 < (w6 + 1) ∧ (tpS E (teO E n).1 s8 q8).1 v9 = ((tpS E (teO E n).1 s8 q8).1 ((teO E n).1 q8 / 6)) then ((tpS E (teO E n).1 s8 q8).1 ((teO E n).1 q8 % 6)) else (tpS E (teO E n).1 s8 q8).1 v9) j9)))] rfl (fun j hj => by first | exact ip_y c230 j | exact ip_n c230 j) rfl ?_
                                  exact ih_212 (w6 + 1) (by omega) (by omega)
                                · have c230 : (tpS E (teO E n).1 s8 q8).1 w6 = ((tpS E (teO E n).1 s8 q8).1 ((teO E n).1 q8 / 6)) := by { have q := c_230; change nI (if _ then _ else _) = _ at q; rw [if_neg (fun q2 => absurd q2.1 (Nat.lt_irrefl _))] at q; exact (nI_eq (by omega) (by omega)).mp q }
                                  refine g_iload (pc := 233) C 9 rfl dL_trees_233 ?_
                                  refine g_goto (pc := 235) C 243 (by decide) dL_trees_235 ?_
                                  refine g_iast_n (pc := 243) C (j := w6) 9 [(lo, .inr (13, [.ref eo, .ref e1, .ref e2, .ref e3, .ref e4, .ref e5, .int (nI n), .int (nI z), .int sw])), (eo, aR k 3 6 (fun i9 => if i9 < 6 then some (er i9) else none)), ((er 0), aI k 6 (EN E 0)), ((er 1), aI k 6 (EN E 1)), ((er 2), aI k 6 (EN E 2)), ((er 3), aI k 6 (EN E 3)), ((er 4), aI k 6 (EN E 4)), ((er 5), aI k 6 (EN E 5)), (q1, aI k 30 (fun j9 => nI ((teO E n).1 j9))), (q2, aI k 6 (upd (fun j9 => nI ((fun v9 => if v9 < w6 ∧ (tpS E (teO E n).1 s8 q8).1 v9 = ((tpS E (teO E n).1 s8 q8).1 ((teO E n).1 q8 / 6)) then ((tpS E (teO E n).1 s8 q8).1 ((teO E n).1 q8 % 6)) else (tpS E (teO E n).1 s8 q8).1 v9) j9)) w6 (nI ((tpS E (teO E n).1 s8 q8).1 ((teO E n).1 q8 % 6)))))] rfl (by omega) (by first | decide | omega) rfl rfl dL_trees_243 ?_
                                  refine g_iinc (pc := 244) (n := 1) (v := (nI (w6 + 1))) C 10 [(12, .int (nI (w6 + 1))), (0, .ref lo), (1, .ref q1), (2, .int (nI (teO E n).2)), (3, .long (ttS E (teO E n).1 (teO E n).2 (n - 1) s8)), (5, .int (nI s8)), (6, .ref q2), (7, .long (((tpS E (teO E n).1 s8 q8).2) * (((EN E ((teO E n).1 q8 / 6)) ((teO E n).1 q8 % 6)).toInt64))), (9, .int (nI q8)), (10, .int (nI ((tpS E (teO E n).1 s8 q8).1 ((teO E n).1 q8 / 6)))), (11, .int (nI ((tpS E (teO E n).1 s8 q8).1 ((teO E n).1 q8 % 6))))] rfl (nI_1 w6) dL_trees_244 (by decide) rfl ?_
                                  refine g_goto (pc := 247) C 212 (by decide) dL_trees_247 ?_
                                  refine G.loc [1, 2, 3, 4, 5, 6, 7, 8, 9, 10, 0] (lv' := [(0, .ref lo), (1, .ref q1), (2, .int (nI (teO E n).2)), (3, .long (ttS E (teO E n).1 (teO E n).2 (n - 1) s8)), (5, .int (nI s8)), (6, .ref q2), (7, .long (((tpS E (teO E n).1 s8 q8).2) * (((EN E ((teO E n).1 q8 / 6)) ((teO E n).1 q8 % 6)).toInt64))), (9, .int (nI q8)), (10, .int (nI ((tpS E (teO E n).1 s8 q8).1 ((teO E n).1 q8 / 6)))), (11, .int (nI ((tpS E (teO E n).1 s8 q8).1 ((teO E n).1 q8 % 6)))), (12, .int (nI (w6 + 1)))]) rfl ?_
                                  refine G.fn (fun j9 => nI ((fun v9 => if v9 < (w6 + 1) ∧ (tpS E (teO E n).1 s8 q8).1 v9 = ((tpS E (teO E n).1 s8 q8).1 ((teO E n).1 q8 / 6)) then ((tpS E (teO E n).1 s8 q8).1 ((teO E n).1 q8 % 6)) else (tpS E (teO E n).1 s8 q8).1 v9) j9)) 9 [(lo, .inr (13, [.ref eo, .ref e1, .ref e2, .ref e3, .ref e4, .ref e5, .int (nI n), .int (nI z), .int sw])), (eo, aR k 3 6 (fun i9 => if i9 < 6 then some (er i9) else none)), ((er 0), aI k 6 (EN E 0)), ((er 1), aI k 6 (EN E 1)), ((er 2), aI k 6 (EN E 2)), ((er 3), aI k 6 (EN E 3)), ((er 4), aI k 6 (EN E 4)), ((er 5), aI k 6 (EN E 5)), (q1, aI k 30 (fun j9 => nI ((teO E n).1 j9))), (q2, aI k 6 (fun j9 => nI ((fun v9 => if v9 < (w6 + 1) ∧ (tpS E (teO E n).1 s8 q8).1 v9 = ((tpS E (teO E n).1 s8 q8).1 ((teO E n).1 q8 / 6)) then ((tpS E (teO E n).1 s8 q8).1 ((teO E n).1 q8 % 6)) else (tpS E (teO E n).1 s8 q8).1 v9) j9)))] rfl (fun j hj => by first | exact ip_y c230 j | exact ip_n c230 j) rfl ?_
                                  exact ih_212 (w6 + 1) (by omega) (by omega)
                          refine G.loc [4, 5, 6, 7, 8, 9, 1, 10, 3, 2, 0] (lv' := [(0, .ref lo), (1, .ref q1), (2, .int (nI (teO E n).2)), (3, .long (ttS E (teO E n).1 (teO E n).2 (n - 1) s8)), (5, .int (nI s8)), (6, .ref q2), (7, .long (((tpS E (teO E n).1 s8 q8).2) * (((EN E ((teO E n).1 q8 / 6)) ((teO E n).1 q8 % 6)).toInt64))), (9, .int (nI q8)), (10, .int (nI ((tpS E (teO E n).1 s8 q8).1 ((teO E n).1 q8 / 6)))), (11, .int (nI ((tpS E (teO E n).1 s8 q8).1 ((teO E n).1 q8 % 6)))), (12, .int 0)]) rfl ?_
                          refine G.fn (fun j9 => nI ((fun v9 => if v9 < 0 ∧ (tpS E (teO E n).1 s8 q8).1 v9 = ((tpS E (teO E n).1 s8 q8).1 ((teO E n).1 q8 / 6)) then ((tpS E (teO E n).1 s8 q8).1 ((teO E n).1 q8 % 6)) else (tpS E (teO E n).1 s8 q8).1 v9) j9)) 9 [(lo, .inr (13, [.ref eo, .ref e1, .ref e2, .ref e3, .ref e4, .ref e5, .int (nI n), .int (nI z), .int sw])), (eo, aR k 3 6 (fun i9 => if i9 < 6 then some (er i9) else none)), ((er 0), aI k 6 (EN E 0)), ((er 1), aI k 6 (EN E 1)), ((er 2), aI k 6 (EN E 2)), ((er 3), aI k 6 (EN E 3)), ((er 4), aI k 6 (EN E 4)), ((er 5), aI k 6 (EN E 5)), (q1, aI k 30 (fun j9 => nI ((teO E n).1 j9))), (q2, aI k 6 (fun j9 => nI ((fun v9 => if v9 < 0 ∧ (tpS E (teO E n).1 s8 q8).1 v9 = ((tpS E (teO E n).1 s8 q8).1 ((teO E n).1 q8 / 6)) then ((tpS E (teO E n).1 s8 q8).1 ((teO E n).1 q8 % 6)) else (tpS E (teO E n).1 s8 q8).1 v9) j9)))] rfl (fun j hj => by exact ip_0 j) rfl ?_
                          refine G.eql (lv' := [(0, .ref lo), (1, .ref q1), (2, .int (nI (teO E n).2)), (3, .long (ttS E (teO E n).1 (teO E n).2 (n - 1) s8)), (5, .int (nI s8)), (6, .ref q2), (7, .long (((tpS E (teO E n).1 s8 q8).2) * (((EN E ((teO E n).1 q8 / 6)) ((teO E n).1 q8 % 6)).toInt64))), (9, .int (nI q8)), (10, .int (nI ((tpS E (teO E n).1 s8 q8).1 ((teO E n).1 q8 / 6)))), (11, .int (nI ((tpS E (teO E n).1 s8 q8).1 ((teO E n).1 q8 % 6)))), (12, .int (nI 0))]) (congrArg (β := List (Nat × Value)) (fun z9 => [(0, .ref lo), (1, .ref q1), (2, .int (nI (teO E n).2)), (3, .long (ttS E (teO E n).1 (teO E n).2 (n - 1) s8)), (5, .int (nI s8)), (6, .ref q2), (7, .long (((tpS E (teO E n).1 s8 q8).2) * (((EN E ((teO E n).1 q8 / 6)) ((teO E n).1 q8 % 6)).toInt64))), (9, .int (nI q8)), (10, .int (nI ((tpS E (teO E n).1 s8 q8).1 ((teO E n).1 q8 / 6)))), (11, .int (nI ((tpS E (teO E n).1 s8 q8).1 ((teO E n).1 q8 % 6)))), (12, .int z9)]) (show (0 : Int32) = (nI 0) from by first | rfl | exact nI_0.symm)) ?_
                          exact key_212 (6 - 0 + 1) 0 (by omega) (Nat.lt_succ_self _)
                        · have c178 : ((tpS E (teO E n).1 s8 q8).1 ((teO E n).1 q8 / 6)) = ((tpS E (teO E n).1 s8 q8).1 ((teO E n).1 q8 % 6)) := (nI_eq (by have := htb ((teO E n).1 q8 / 6) (by omega); omega) (by have := htb ((teO E n).1 q8 % 6) (by omega); omega)).mp c_178
                          refine g_lconst (pc := 181) (v := 0) C (by decide) dL_trees_181 ?_
                          refine g_goto (pc := 182) C 206 (by decide) dL_trees_182 ?_
                          refine g_lmul (pc := 206) C dL_trees_206 ?_
                          refine g_lstore (pc := 207) C [(7, .long (((tpS E (teO E n).1 s8 q8).2) * 0)), (11, .int (nI ((tpS E (teO E n).1 s8 q8).1 ((teO E n).1 q8 % 6)))), (10, .int (nI ((tpS E (teO E n).1 s8 q8).1 ((teO E n).1 q8 / 6)))), (0, .ref lo), (1, .ref q1), (2, .int (nI (teO E n).2)), (3, .long (ttS E (teO E n).1 (teO E n).2 (n - 1) s8)), (5, .int (nI s8)), (6, .ref q2), (9, .int (nI q8))] dL_trees_207 (by decide) rfl ?_
                          refine g_iconst (pc := 209) (v := 0) C (by decide) dL_trees_209 ?_
                          refine g_istore (pc := 210) C [(12, .int 0), (7, .long (((tpS E (teO E n).1 s8 q8).2) * 0)), (11, .int (nI ((tpS E (teO E n).1 s8 q8).1 ((teO E n).1 q8 % 6)))), (10, .int (nI ((tpS E (teO E n).1 s8 q8).1 ((teO E n).1 q8 / 6)))), (0, .ref lo), (1, .ref q1), (2, .int (nI (teO E n).2)), (3, .long (ttS E (teO E n).1 (teO E n).2 (n - 1) s8)), (5, .int (nI s8)), (6, .ref q2), (9, .int (nI q8))] dL_trees_210 (by decide) rfl ?_
                          have key_212 : ∀ (fuel : Nat) (w6 : Nat), w6 ≤ 6 → 6 - w6 < fuel → G p9 l e9 { frames := 1, cells := 32800, slots := 196700, locals := 20 } s9 m9 ([.ref lo] : List Value).toArray bl9 me9 co9 D 13 (va_A [(lo, .inr (13, [.ref eo, .ref e1, .ref e2, .ref e3, .ref e4, .ref e5, .int (nI n), .int (nI z), .int sw])), (eo, aR k 3 6 (fun i9 => if i9 < 6 then some (er i9) else none)), ((er 0), aI k 6 (EN E 0)), ((er 1), aI k 6 (EN E 1)), ((er 2), aI k 6 (EN E 2)), ((er 3), aI k 6 (EN E 3)), ((er 4), aI k 6 (EN E 4)), ((er 5), aI k 6 (EN E 5))] s9.heap.size) (QM bl9 D ([.ref lo] : List Value).toArray s9 [(lo, .inr (13, [.ref eo, .ref e1, .ref e2, .ref e3, .ref e4, .ref e5, .int (nI n), .int (nI z), .int sw])), (eo, aR k 3 6 (fun i9 => if i9 < 6 then some (er i9) else none)), ((er 0), aI k 6 (EN E 0)), ((er 1), aI k 6 (EN E 1)), ((er 2), aI k 6 (EN E 2)), ((er 3), aI k 6 (EN E 3)), ((er 4), aI k 6 (EN E 4)), ((er 5), aI k 6 (EN E 5))] (is1 (some (.long (if n = 1 then 1 else ttV E n))) [(lo, .inr (13, [.ref eo, .ref e1, .ref e2, .ref e3, .ref e4, .ref e5, .int (nI n), .int (nI z), .int sw])), (eo, aR k 3 6 (fun i9 => if i9 < 6 then some (er i9) else none)), ((er 0), aI k 6 (EN E 0)), ((er 1), aI k 6 (EN E 1)), ((er 2), aI k 6 (EN E 2)), ((er 3), aI k 6 (EN E 3)), ((er 4), aI k 6 (EN E 4)), ((er 5), aI k 6 (EN E 5))]) 32800 196700 0) [(lo, .inr (13, [.ref eo, .ref e1, .ref e2, .ref e3, .ref e4, .ref e5, .int (nI n), .int (nI z), .int sw])), (eo, aR k 3 6 (fun i9 => if i9 < 6 then some (er i9) else none)), ((er 0), aI k 6 (EN E 0)), ((er 1), aI k 6 (EN E 1)), ((er 2), aI k 6 (EN E 2)), ((er 3), aI k 6 (EN E 3)), ((er 4), aI k 6 (EN E 4)), ((er 5), aI k 6 (EN E 5)), (q1, aI k 30 (fun j9 => nI ((teO E n).1 j9))), (q2, aI k 6 (fun j9 => nI ((fun v9 => if v9 < w6 ∧ (tpS E (teO E n).1 s8 q8).1 v9 = ((tpS E (teO E n).1 s8 q8).1 ((teO E n).1 q8 / 6)) then ((tpS E (teO E n).1 s8 q8).1 ((teO E n).1 q8 % 6)) else (tpS E (teO E n).1 s8 q8).1 v9) j9)))] [(0, .ref lo), (1, .ref q1), (2, .int (nI (teO E n).2)), (3, .long (ttS E (teO E n).1 (teO E n).2 (n - 1) s8)), (5, .int (nI s8)), (6, .ref q2), (7, .long (((tpS E (teO E n).1 s8 q8).2) * 0)), (9, .int (nI q8)), (10, .int (nI ((tpS E (teO E n).1 s8 q8).1 ((teO E n).1 q8 / 6)))), (11, .int (nI ((tpS E (teO E n).1 s8 q8).1 ((teO E n).1 q8 % 6)))), (12, .int (nI w6))] (1 + ttC (n - 1) s8 + 1) (30 + 6 * ttC (n - 1) s8 + 6) (1 + 1) 212 [] := by
                            intro fuel
                            induction fuel with
                            | zero => intro w6 hw6 hm; exact absurd hm (Nat.not_lt_zero _)
                            | succ fuel ih =>
                              intro w6 hw6 hm
                              have ih_212 := ih
                              refine g_iload (pc := 212) C 10 rfl dL_trees_212 ?_
                              refine g_bipush (pc := 214) (v := 6) C (by decide) dL_trees_214 ?_
                              refine g_icmp_ge (pc := 216) C 250 (by decide) dL_trees_216 (fun c_216 => ?_) (fun c_216 => ?_)
                              · have h6 : w6 = 6 := by { have := nle_ge (b := 6) (a := w6) (by omega) c_216; omega }
                                refine g_iinc (pc := 250) (n := 1) (v := (nI (q8 + 1))) C 7 [(9, .int (nI (q8 + 1))), (0, .ref lo), (1, .ref q1), (2, .int (nI (teO E n).2)), (3, .long (ttS E (teO E n).1 (teO E n).2 (n - 1) s8)), (5, .int (nI s8)), (6, .ref q2), (7, .long (((tpS E (teO E n).1 s8 q8).2) * 0)), (10, .int (nI ((tpS E (teO E n).1 s8 q8).1 ((teO E n).1 q8 / 6)))), (11, .int (nI ((tpS E (teO E n).1 s8 q8).1 ((teO E n).1 q8 % 6)))), (12, .int (nI w6))] rfl (nI_1 q8) dL_trees_250 (by decide) rfl ?_
                                refine g_goto (pc := 253) C 129 (by decide) dL_trees_253 ?_
                                refine G.loc [1, 2, 3, 4, 5, 6, 7, 0] (lv' := [(0, .ref lo), (1, .ref q1), (2, .int (nI (teO E n).2)), (3, .long (ttS E (teO E n).1 (teO E n).2 (n - 1) s8)), (5, .int (nI s8)), (6, .ref q2), (7, .long (((tpS E (teO E n).1 s8 q8).2) * 0)), (9, .int (nI (q8 + 1)))]) rfl ?_
                                refine G.fn (fun j9 => nI ((tpS E (teO E n).1 s8 (q8 + 1)).1 j9)) 9 [(lo, .inr (13, [.ref eo, .ref e1, .ref e2, .ref e3, .ref e4, .ref e5, .int (nI n), .int (nI z), .int sw])), (eo, aR k 3 6 (fun i9 => if i9 < 6 then some (er i9) else none)), ((er 0), aI k 6 (EN E 0)), ((er 1), aI k 6 (EN E 1)), ((er 2), aI k 6 (EN E 2)), ((er 3), aI k 6 (EN E 3)), ((er 4), aI k 6 (EN E 4)), ((er 5), aI k 6 (EN E 5)), (q1, aI k 30 (fun j9 => nI ((teO E n).1 j9))), (q2, aI k 6 (fun j9 => nI ((tpS E (teO E n).1 s8 (q8 + 1)).1 j9)))] rfl (fun j hj => by first | (rw [tp_n c_142]) | (rw [h6]; exact tp_w c_142 hj)) rfl ?_
                                refine G.eql (lv' := [(0, .ref lo), (1, .ref q1), (2, .int (nI (teO E n).2)), (3, .long (ttS E (teO E n).1 (teO E n).2 (n - 1) s8)), (5, .int (nI s8)), (6, .ref q2), (7, .long ((tpS E (teO E n).1 s8 (q8 + 1)).2)), (9, .int (nI (q8 + 1)))]) (congrArg (β := List (Nat × Value)) (fun z9 => [(0, .ref lo), (1, .ref q1), (2, .int (nI (teO E n).2)), (3, .long (ttS E (teO E n).1 (teO E n).2 (n - 1) s8)), (5, .int (nI s8)), (6, .ref q2), (7, .long z9), (9, .int (nI (q8 + 1)))]) (show ((((tpS E (teO E n).1 s8 q8).2) * 0) : Int64) = (tpS E (teO E n).1 s8 (q8 + 1)).2 from by first | rfl | (rw [tp_n c_142]) | (rw [tp_y0 c_142 c178]) | (rw [tp_y1 c_142 c178]; try rfl))) ?_
                                exact ih_129 (q8 + 1) (by omega) (by omega)
                              · have hl216 : w6 < 6 := nle_lt (by omega) c_216
                                have hbx := htb w6 hl216
                                have hby := htb ((teO E n).1 q8 / 6) (by omega)
                                refine g_aload (pc := 219) C 5 rfl dL_trees_219 ?_
                                refine g_iload (pc := 221) C 10 rfl dL_trees_221 ?_
                                refine g_aload (pc := 223) C 5 rfl dL_trees_223 ?_
                                refine g_iload (pc := 225) C 10 rfl dL_trees_225 ?_
                                refine g_iald_n (pc := 227) C (j := w6) 9 rfl (by omega) (by first | decide | omega) rfl dL_trees_227 ?_
                                refine G.eqs (st' := [.int (nI ((fun v9 => if v9 < w6 ∧ (tpS E (teO E n).1 s8 q8).1 v9 = ((tpS E (teO E n).1 s8 q8).1 ((teO E n).1 q8 / 6)) then ((tpS E (teO E n).1 s8 q8).1 ((teO E n).1 q8 % 6)) else (tpS E (teO E n).1 s8 q8).1 v9) w6)), .int (nI w6), .ref q2]) (congrArg (β := List Value) (fun z9 => [.int z9, .int (nI w6), .ref q2]) (show (((fun j9 => nI ((fun v9 => if v9 < w6 ∧ (tpS E (teO E n).1 s8 q8).1 v9 = ((tpS E (teO E n).1 s8 q8).1 ((teO E n).1 q8 / 6)) then ((tpS E (teO E n).1 s8 q8).1 ((teO E n).1 q8 % 6)) else (tpS E (teO E n).1 s8 q8).1 v9) j9)) w6) : Int32) = (nI ((fun v9 => if v9 < w6 ∧ (tpS E (teO E n).1 s8 q8).1 v9 = ((tpS E (teO E n).1 s8 q8).1 ((teO E n).1 q8 / 6)) then ((tpS E (teO E n).1 s8 q8).1 ((teO E n).1 q8 % 6)) else (tpS E (teO E n).1 s8 q8).1 v9) w6)) from rfl)) ?_
                                refine g_iload (pc := 228) C 8 rfl dL_trees_228 ?_
                                refine G.eqs (st' := [.int (nI ((tpS E (teO E n).1 s8 q8).1 ((teO E n).1 q8 / 6))), .int (nI ((fun v9 => if v9 < w6 ∧ (tpS E (teO E n).1 s8 q8).1 v9 = ((tpS E (teO E n).1 s8 q8).1 ((teO E n).1 q8 / 6)) then ((tpS E (teO E n).1 s8 q8).1 ((teO E n).1 q8 % 6)) else (tpS E (teO E n).1 s8 q8).1 v9) w6)), .int (nI w6), .ref q2]) (congrArg (β := List Value) (fun z9 => [.int z9, .int (nI ((fun v9 => if v9 < w6 ∧ (tpS E (teO E n).1 s8 q8).1 v9 = ((tpS E (teO E n).1 s8 q8).1 ((teO E n).1 q8 / 6)) then ((tpS E (teO E n).1 s8 q8).1 ((teO E n).1 q8 % 6)) else (tpS E (teO E n).1 s8 q8).1 v9) w6)), .int (nI w6), .ref q2]) (show ((nI ((tpS E (teO E n).1 s8 q8).1 ((teO E n).1 q8 / 6))) : Int32) = (nI ((tpS E (teO E n).1 s8 q8).1 ((teO E n).1 q8 / 6))) from rfl)) ?_
                                refine g_icmp_ne (pc := 230) C 238 (by decide) dL_trees_230 (fun c_230 => ?_) (fun c_230 => ?_)
                                · have c230 : ¬ (tpS E (teO E n).1 s8 q8).1 w6 = ((tpS E (teO E n).1 s8 q8).1 ((teO E n).1 q8 / 6)) := (fun q => c_230 (by show nI (if _ then _ else _) = _; rw [if_neg (fun q2 => absurd q2.1 (Nat.lt_irrefl _)), q]))
                                  refine g_aload (pc := 238) C 5 rfl dL_trees_238 ?_
                                  refine g_iload (pc := 240) C 10 rfl dL_trees_240 ?_
                                  refine g_iald_n (pc := 242) C (j := w6) 9 rfl (by omega) (by first | decide | omega) rfl dL_trees_242 ?_
                                  refine g_iast_n (pc := 243) C (j := w6) 9 [(lo, .inr (13, [.ref eo, .ref e1, .ref e2, .ref e3, .ref e4, .ref e5, .int (nI n), .int (nI z), .int sw])), (eo, aR k 3 6 (fun i9 => if i9 < 6 then some (er i9) else none)), ((er 0), aI k 6 (EN E 0)), ((er 1), aI k 6 (EN E 1)), ((er 2), aI k 6 (EN E 2)), ((er 3), aI k 6 (EN E 3)), ((er 4), aI k 6 (EN E 4)), ((er 5), aI k 6 (EN E 5)), (q1, aI k 30 (fun j9 => nI ((teO E n).1 j9))), (q2, aI k 6 (upd (fun j9 => nI ((fun v9 => if v9 < w6 ∧ (tpS E (teO E n).1 s8 q8).1 v9 = ((tpS E (teO E n).1 s8 q8).1 ((teO E n).1 q8 / 6)) then ((tpS E (teO E n).1 s8 q8).1 ((teO E n).1 q8 % 6)) else (tpS E (teO E n).1 s8 q8).1 v9) j9)) w6 ((fun j9 => nI ((fun v9 => if v9 < w6 ∧ (tpS E (teO E n).1 s8 q8).1 v9 = ((tpS E (teO E n).1 s8 q8).1 ((teO E n).1 q8 / 6)) then ((tpS E (teO E n).1 s8 q8).1 ((teO E n).1 q8 % 6)) else (tpS E (teO E n).1 s8 q8).1 v9) j9)) w6)))] rfl (by omega) (by first | decide | omega) rfl rfl dL_trees_243 ?_
                                  refine g_iinc (pc := 244) (n := 1) (v := (nI (w6 + 1))) C 10 [(12, .int (nI (w6 + 1))), (0, .ref lo), (1, .ref q1), (2, .int (nI (teO E n).2)), (3, .long (ttS E (teO E n).1 (teO E n).2 (n - 1) s8)), (5, .int (nI s8)), (6, .ref q2), (7, .long (((tpS E (teO E n).1 s8 q8).2) * 0)), (9, .int (nI q8)), (10, .int (nI ((tpS E (teO E n).1 s8 q8).1 ((teO E n).1 q8 / 6)))), (11, .int (nI ((tpS E (teO E n).1 s8 q8).1 ((teO E n).1 q8 % 6))))] rfl (nI_1 w6) dL_trees_244 (by decide) rfl ?_
                                  refine g_goto (pc := 247) C 212 (by decide) dL_trees_247 ?_
                                  refine G.loc [1, 2, 3, 4, 5, 6, 7, 8, 9, 10, 0] (lv' := [(0, .ref lo), (1, .ref q1), (2, .int (nI (teO E n).2)), (3, .long (ttS E (teO E n).1 (teO E n).2 (n - 1) s8)), (5, .int (nI s8)), (6, .ref q2), (7, .long (((tpS E (teO E n).1 s8 q8).2) * 0)), (9, .int (nI q8)), (10, .int (nI ((tpS E (teO E n).1 s8 q8).1 ((teO E n).1 q8 / 6)))), (11, .int (nI ((tpS E (teO E n).1 s8 q8).1 ((teO E n).1 q8 % 6)))), (12, .int (nI (w6 + 1)))]) rfl ?_
                                  refine G.fn (fun j9 => nI ((fun v9 => if v9 < (w6 + 1) ∧ (tpS E (teO E n).1 s8 q8).1 v9 = ((tpS E (teO E n).1 s8 q8).1 ((teO E n).1 q8 / 6)) then ((tpS E (teO E n).1 s8 q8).1 ((teO E n).1 q8 % 6)) else (tpS E (teO E n).1 s8 q8).1 v9) j9)) 9 [(lo, .inr (13, [.ref eo, .ref e1, .ref e2, .ref e3, .ref e4, .ref e5, .int (nI n), .int (nI z), .int sw])), (eo, aR k 3 6 (fun i9 => if i9 < 6 then some (er i9) else none)), ((er 0), aI k 6 (EN E 0)), ((er 1), aI k 6 (EN E 1)), ((er 2), aI k 6 (EN E 2)), ((er 3), aI k 6 (EN E 3)), ((er 4), aI k 6 (EN E 4)), ((er 5), aI k 6 (EN E 5)), (q1, aI k 30 (fun j9 => nI ((teO E n).1 j9))), (q2, aI k 6 (fun j9 => nI ((fun v9 => if v9 < (w6 + 1) ∧ (tpS E (teO E n).1 s8 q8).1 v9 = ((tpS E (teO E n).1 s8 q8).1 ((teO E n).1 q8 / 6)) then ((tpS E (teO E n).1 s8 q8).1 ((teO E n).1 q8 % 6)) else (tpS E (teO E n).1 s8 q8).1 v9) j9)))] rfl (fun j hj => by first | exact ip_y c230 j | exact ip_n c230 j) rfl ?_
                                  exact ih_212 (w6 + 1) (by omega) (by omega)
                                · have c230 : (tpS E (teO E n).1 s8 q8).1 w6 = ((tpS E (teO E n).1 s8 q8).1 ((teO E n).1 q8 / 6)) := by { have q := c_230; change nI (if _ then _ else _) = _ at q; rw [if_neg (fun q2 => absurd q2.1 (Nat.lt_irrefl _))] at q; exact (nI_eq (by omega) (by omega)).mp q }
                                  refine g_iload (pc := 233) C 9 rfl dL_trees_233 ?_
                                  refine g_goto (pc := 235) C 243 (by decide) dL_trees_235 ?_
                                  refine g_iast_n (pc := 243) C (j := w6) 9 [(lo, .inr (13, [.ref eo, .ref e1, .ref e2, .ref e3, .ref e4, .ref e5, .int (nI n), .int (nI z), .int sw])), (eo, aR k 3 6 (fun i9 => if i9 < 6 then some (er i9) else none)), ((er 0), aI k 6 (EN E 0)), ((er 1), aI k 6 (EN E 1)), ((er 2), aI k 6 (EN E 2)), ((er 3), aI k 6 (EN E 3)), ((er 4), aI k 6 (EN E 4)), ((er 5), aI k 6 (EN E 5)), (q1, aI k 30 (fun j9 => nI ((teO E n).1 j9))), (q2, aI k 6 (upd (fun j9 => nI ((fun v9 => if v9 < w6 ∧ (tpS E (teO E n).1 s8 q8).1 v9 = ((tpS E (teO E n).1 s8 q8).1 ((teO E n).1 q8 / 6)) then ((tpS E (teO E n).1 s8 q8).1 ((teO E n).1 q8 % 6)) else (tpS E (teO E n).1 s8 q8).1 v9) j9)) w6 (nI ((tpS E (teO E n).1 s8 q8).1 ((teO E n).1 q8 % 6)))))] rfl (by omega) (by first | decide | omega) rfl rfl dL_trees_243 ?_
                                  refine g_iinc (pc := 244) (n := 1) (v := (nI (w6 + 1))) C 10 [(12, .int (nI (w6 + 1))), (0, .ref lo), (1, .ref q1), (2, .int (nI (teO E n).2)), (3, .long (ttS E (teO E n).1 (teO E n).2 (n - 1) s8)), (5, .int (nI s8)), (6, .ref q2), (7, .long (((tpS E (teO E n).1 s8 q8).2) * 0)), (9, .int (nI q8)), (10, .int (nI ((tpS E (teO E n).1 s8 q8).1 ((teO E n).1 q8 / 6)))), (11, .int (nI ((tpS E (teO E n).1 s8 q8).1 ((teO E n).1 q8 % 6))))] rfl (nI_1 w6) dL_trees_244 (by decide) rfl ?_
                                  refine g_goto (pc := 247) C 212 (by decide) dL_trees_247 ?_
                                  refine G.loc [1, 2, 3, 4, 5, 6, 7, 8, 9, 10, 0] (lv' := [(0, .ref lo), (1, .ref q1), (2, .int (nI (teO E n).2)), (3, .long (ttS E (teO E n).1 (teO E n).2 (n - 1) s8)), (5, .int (nI s8)), (6, .ref q2), (7, .long (((tpS E (teO E n).1 s8 q8).2) * 0)), (9, .int (nI q8)), (10, .int (nI ((tpS E (teO E n).1 s8 q8).1 ((teO E n).1 q8 / 6)))), (11, .int (nI ((tpS E (teO E n).1 s8 q8).1 ((teO E n).1 q8 % 6)))), (12, .int (nI (w6 + 1)))]) rfl ?_
                                  refine G.fn (fun j9 => nI ((fun v9 => if v9 < (w6 + 1) ∧ (tpS E (teO E n).1 s8 q8).1 v9 = ((tpS E (teO E n).1 s8 q8).1 ((teO E n).1 q8 / 6)) then ((tpS E (teO E n).1 s8 q8).1 ((teO E n).1 q8 % 6)) else (tpS E (teO E n).1 s8 q8).1 v9) j9)) 9 [(lo, .inr (13, [.ref eo, .ref e1, .ref e2, .ref e3, .ref e4, .ref e5, .int (nI n), .int (nI z), .int sw])), (eo, aR k 3 6 (fun i9 => if i9 < 6 then some (er i9) else none)), ((er 0), aI k 6 (EN E 0)), ((er 1), aI k 6 (EN E 1)), ((er 2), aI k 6 (EN E 2)), ((er 3), aI k 6 (EN E 3)), ((er 4), aI k 6 (EN E 4)), ((er 5), aI k 6 (EN E 5)), (q1, aI k 30 (fun j9 => nI ((teO E n).1 j9))), (q2, aI k 6 (fun j9 => nI ((fun v9 => if v9 < (w6 + 1) ∧ (tpS E (teO E n).1 s8 q8).1 v9 = ((tpS E (teO E n).1 s8 q8).1 ((teO E n).1 q8 / 6)) then ((tpS E (teO E n).1 s8 q8).1 ((teO E n).1 q8 % 6)) else (tpS E (teO E n).1 s8 q8).1 v9) j9)))] rfl (fun j hj => by first | exact ip_y c230 j | exact ip_n c230 j) rfl ?_
                                  exact ih_212 (w6 + 1) (by omega) (by omega)
                          refine G.loc [4, 5, 6, 7, 8, 9, 1, 10, 3, 2, 0] (lv' := [(0, .ref lo), (1, .ref q1), (2, .int (nI (teO E n).2)), (3, .long (ttS E (teO E n).1 (teO E n).2 (n - 1) s8)), (5, .int (nI s8)), (6, .ref q2), (7, .long (((tpS E (teO E n).1 s8 q8).2) * 0)), (9, .int (nI q8)), (10, .int (nI ((tpS E (teO E n).1 s8 q8).1 ((teO E n).1 q8 / 6)))), (11, .int (nI ((tpS E (teO E n).1 s8 q8).1 ((teO E n).1 q8 % 6)))), (12, .int 0)]) rfl ?_
                          refine G.fn (fun j9 => nI ((fun v9 => if v9 < 0 ∧ (tpS E (teO E n).1 s8 q8).1 v9 = ((tpS E (teO E n).1 s8 q8).1 ((teO E n).1 q8 / 6)) then ((tpS E (teO E n).1 s8 q8).1 ((teO E n).1 q8 % 6)) else (tpS E (teO E n).1 s8 q8).1 v9) j9)) 9 [(lo, .inr (13, [.ref eo, .ref e1, .ref e2, .ref e3, .ref e4, .ref e5, .int (nI n), .int (nI z), .int sw])), (eo, aR k 3 6 (fun i9 => if i9 < 6 then some (er i9) else none)), ((er 0), aI k 6 (EN E 0)), ((er 1), aI k 6 (EN E 1)), ((er 2), aI k 6 (EN E 2)), ((er 3), aI k 6 (EN E 3)), ((er 4), aI k 6 (EN E 4)), ((er 5), aI k 6 (EN E 5)), (q1, aI k 30 (fun j9 => nI ((teO E n).1 j9))), (q2, aI k 6 (fun j9 => nI ((fun v9 => if v9 < 0 ∧ (tpS E (teO E n).1 s8 q8).1 v9 = ((tpS E (teO E n).1 s8 q8).1 ((teO E n).1 q8 / 6)) then ((tpS E (teO E n).1 s8 q8).1 ((teO E n).1 q8 % 6)) else (tpS E (teO E n).1 s8 q8).1 v9) j9)))] rfl (fun j hj => by exact ip_0 j) rfl ?_
                          refine G.eql (lv' := [(0, .ref lo), (1, .ref q1), (2, .int (nI (teO E n).2)), (3, .long (ttS E (teO E n).1 (teO E n).2 (n - 1) s8)), (5, .int (nI s8)), (6, .ref q2), (7, .long (((tpS E (teO E n).1 s8 q8).2) * 0)), (9, .int (nI q8)), (10, .int (nI ((tpS E (teO E n).1 s8 q8).1 ((teO E n).1 q8 / 6)))), (11, .int (nI ((tpS E (teO E n).1 s8 q8).1 ((teO E n).1 q8 % 6)))), (12, .int (nI 0))]) (congrArg (β := List (Nat × Value)) (fun z9 => [(0, .ref lo), (1, .ref q1), (2, .int (nI (teO E n).2)), (3, .long (ttS E (teO E n).1 (teO E n).2 (n - 1) s8)), (5, .int (nI s8)), (6, .ref q2), (7, .long (((tpS E (teO E n).1 s8 q8).2) * 0)), (9, .int (nI q8)), (10, .int (nI ((tpS E (teO E n).1 s8 q8).1 ((teO E n).1 q8 / 6)))), (11, .int (nI ((tpS E (teO E n).1 s8 q8).1 ((teO E n).1 q8 % 6)))), (12, .int z9)]) (show (0 : Int32) = (nI 0) from by first | rfl | exact nI_0.symm)) ?_
                          exact key_212 (6 - 0 + 1) 0 (by omega) (Nat.lt_succ_self _)
                      · refine g_goto (pc := 145) C 250 (by decide) dL_trees_145 ?_
                        refine g_iinc (pc := 250) (n := 1) (v := (nI (q8 + 1))) C 7 [(9, .int (nI (q8 + 1))), (0, .ref lo), (1, .ref q1), (2, .int (nI (teO E n).2)), (3, .long (ttS E (teO E n).1 (teO E n).2 (n - 1) s8)), (5, .int (nI s8)), (6, .ref q2), (7, .long ((tpS E (teO E n).1 s8 q8).2))] rfl (nI_1 q8) dL_trees_250 (by decide) rfl ?_
                        refine g_goto (pc := 253) C 129 (by decide) dL_trees_253 ?_
                        refine G.loc [1, 2, 3, 4, 5, 6, 7, 0] (lv' := [(0, .ref lo), (1, .ref q1), (2, .int (nI (teO E n).2)), (3, .long (ttS E (teO E n).1 (teO E n).2 (n - 1) s8)), (5, .int (nI s8)), (6, .ref q2), (7, .long ((tpS E (teO E n).1 s8 q8).2)), (9, .int (nI (q8 + 1)))]) rfl ?_
                        refine G.fn (fun j9 => nI ((tpS E (teO E n).1 s8 (q8 + 1)).1 j9)) 9 [(lo, .inr (13, [.ref eo, .ref e1, .ref e2, .ref e3, .ref e4, .ref e5, .int (nI n), .int (nI z), .int sw])), (eo, aR k 3 6 (fun i9 => if i9 < 6 then some (er i9) else none)), ((er 0), aI k 6 (EN E 0)), ((er 1), aI k 6 (EN E 1)), ((er 2), aI k 6 (EN E 2)), ((er 3), aI k 6 (EN E 3)), ((er 4), aI k 6 (EN E 4)), ((er 5), aI k 6 (EN E 5)), (q1, aI k 30 (fun j9 => nI ((teO E n).1 j9))), (q2, aI k 6 (fun j9 => nI ((tpS E (teO E n).1 s8 (q8 + 1)).1 j9)))] rfl (fun j hj => by first | (rw [tp_n c_142]) | (rw [h6]; exact tp_w c_142 hj)) rfl ?_
                        refine G.eql (lv' := [(0, .ref lo), (1, .ref q1), (2, .int (nI (teO E n).2)), (3, .long (ttS E (teO E n).1 (teO E n).2 (n - 1) s8)), (5, .int (nI s8)), (6, .ref q2), (7, .long ((tpS E (teO E n).1 s8 (q8 + 1)).2)), (9, .int (nI (q8 + 1)))]) (congrArg (β := List (Nat × Value)) (fun z9 => [(0, .ref lo), (1, .ref q1), (2, .int (nI (teO E n).2)), (3, .long (ttS E (teO E n).1 (teO E n).2 (n - 1) s8)), (5, .int (nI s8)), (6, .ref q2), (7, .long z9), (9, .int (nI (q8 + 1)))]) (show ((tpS E (teO E n).1 s8 q8).2 : Int64) = (tpS E (teO E n).1 s8 (q8 + 1)).2 from by first | rfl | (rw [tp_n c_142]) | (rw [tp_y0 c_142 c178]) | (rw [tp_y1 c_142 c178]; try rfl))) ?_
                        exact ih_129 (q8 + 1) (by omega) (by omega)
                refine G.loc [3, 4, 5, 6, 7, 2, 1, 0] (lv' := [(0, .ref lo), (1, .ref q1), (2, .int (nI (teO E n).2)), (3, .long (ttS E (teO E n).1 (teO E n).2 (n - 1) s8)), (5, .int (nI s8)), (6, .ref q2), (7, .long 1), (9, .int 0)]) rfl ?_
                refine G.fn (fun j9 => nI ((tpS E (teO E n).1 s8 0).1 j9)) 9 [(lo, .inr (13, [.ref eo, .ref e1, .ref e2, .ref e3, .ref e4, .ref e5, .int (nI n), .int (nI z), .int sw])), (eo, aR k 3 6 (fun i9 => if i9 < 6 then some (er i9) else none)), ((er 0), aI k 6 (EN E 0)), ((er 1), aI k 6 (EN E 1)), ((er 2), aI k 6 (EN E 2)), ((er 3), aI k 6 (EN E 3)), ((er 4), aI k 6 (EN E 4)), ((er 5), aI k 6 (EN E 5)), (q1, aI k 30 (fun j9 => nI ((teO E n).1 j9))), (q2, aI k 6 (fun j9 => nI ((tpS E (teO E n).1 s8 0).1 j9)))] rfl (fun j hj => by { rcases (show j = 0 ∨ j = 1 ∨ j = 2 ∨ j = 3 ∨ j = 4 ∨ j = 5 by omega) with rfl | rfl | rfl | rfl | rfl | rfl <;> rfl }) rfl ?_
                refine G.eql (lv' := [(0, .ref lo), (1, .ref q1), (2, .int (nI (teO E n).2)), (3, .long (ttS E (teO E n).1 (teO E n).2 (n - 1) s8)), (5, .int (nI s8)), (6, .ref q2), (7, .long ((tpS E (teO E n).1 s8 0).2)), (9, .int (nI 0))]) ((congrArg (β := List (Nat × Value)) (fun z9 => [(0, .ref lo), (1, .ref q1), (2, .int (nI (teO E n).2)), (3, .long (ttS E (teO E n).1 (teO E n).2 (n - 1) s8)), (5, .int (nI s8)), (6, .ref q2), (7, .long z9), (9, .int 0)]) (show (1 : Int64) = (tpS E (teO E n).1 s8 0).2 from by first | rfl | exact nI_0.symm)).trans (congrArg (β := List (Nat × Value)) (fun z9 => [(0, .ref lo), (1, .ref q1), (2, .int (nI (teO E n).2)), (3, .long (ttS E (teO E n).1 (teO E n).2 (n - 1) s8)), (5, .int (nI s8)), (6, .ref q2), (7, .long ((tpS E (teO E n).1 s8 0).2)), (9, .int z9)]) (show (0 : Int32) = (nI 0) from by first | rfl | exact nI_0.symm))) ?_
                exact key_129 ((teO E n).2 - 0 + 1) 0 (by omega) (Nat.lt_succ_self _)
              · refine g_goto (pc := 90) C 261 (by decide) dL_trees_90 ?_
                refine g_iinc (pc := 261) (n := 1) (v := (nI (s8 + 1))) C 4 [(5, .int (nI (s8 + 1))), (0, .ref lo), (1, .ref q1), (2, .int (nI (teO E n).2)), (3, .long (ttS E (teO E n).1 (teO E n).2 (n - 1) s8))] rfl (nI_1 s8) dL_trees_261 (by decide) rfl ?_
                refine g_goto (pc := 264) C 68 (by decide) dL_trees_264 ?_
                refine G.loc [1, 2, 3, 4, 0] (lv' := [(0, .ref lo), (1, .ref q1), (2, .int (nI (teO E n).2)), (3, .long (ttS E (teO E n).1 (teO E n).2 (n - 1) s8)), (5, .int (nI (s8 + 1)))]) rfl ?_
                refine G.eql (lv' := [(0, .ref lo), (1, .ref q1), (2, .int (nI (teO E n).2)), (3, .long (ttS E (teO E n).1 (teO E n).2 (n - 1) (s8 + 1))), (5, .int (nI (s8 + 1)))]) (congrArg (β := List (Nat × Value)) (fun z9 => [(0, .ref lo), (1, .ref q1), (2, .int (nI (teO E n).2)), (3, .long z9), (5, .int (nI (s8 + 1)))]) (show ((ttS E (teO E n).1 (teO E n).2 (n - 1) s8) : Int64) = (ttS E (teO E n).1 (teO E n).2 (n - 1) (s8 + 1)) from by first | rfl | (rw [tt_n c_87]) | (rw [tt_y c_87, h7]; try rfl))) ?_
                refine G.widen (k' := 1 + ttC (n - 1) (s8 + 1)) (n' := 30 + 6 * ttC (n - 1) (s8 + 1)) (g' := 1) (by first | exact Nat.le_refl _ | (rw [tc_n c_87]; exact Nat.le_refl _) | (rw [tc_y c_87]; omega) | omega | decide) (by first | exact Nat.le_refl _ | (rw [tc_n c_87]; exact Nat.le_refl _) | (rw [tc_y c_87]; omega) | omega | decide) (by first | exact Nat.le_refl _ | (rw [tc_n c_87]; exact Nat.le_refl _) | (rw [tc_y c_87]; omega) | omega | decide) ?_
                exact ih_68 (s8 + 1) (by omega) (by omega)
        refine G.loc [2, 3, 4, 1, 0] (lv' := [(0, .ref lo), (1, .ref q1), (2, .int (nI (teO E n).2)), (3, .long 0), (5, .int 0)]) rfl ?_
        refine G.eql (lv' := [(0, .ref lo), (1, .ref q1), (2, .int (nI (teO E n).2)), (3, .long (ttS E (teO E n).1 (teO E n).2 (n - 1) 0)), (5, .int (nI 0))]) ((congrArg (β := List (Nat × Value)) (fun z9 => [(0, .ref lo), (1, .ref q1), (2, .int (nI (teO E n).2)), (3, .long z9), (5, .int 0)]) (show (0 : Int64) = (ttS E (teO E n).1 (teO E n).2 (n - 1) 0) from by first | rfl | exact nI_0.symm)).trans (congrArg (β := List (Nat × Value)) (fun z9 => [(0, .ref lo), (1, .ref q1), (2, .int (nI (teO E n).2)), (3, .long (ttS E (teO E n).1 (teO E n).2 (n - 1) 0)), (5, .int z9)]) (show (0 : Int32) = (nI 0) from by first | rfl | exact nI_0.symm))) ?_
        refine G.widen (k' := 1 + ttC (n - 1) 0) (n' := 30 + 6 * ttC (n - 1) 0) (g' := 1) (by first | exact Nat.le_refl _ | (rw [tc_n c_87]; exact Nat.le_refl _) | (rw [tc_y c_87]; omega) | omega | decide) (by first | exact Nat.le_refl _ | (rw [tc_n c_87]; exact Nat.le_refl _) | (rw [tc_y c_87]; omega) | omega | decide) (by first | exact Nat.le_refl _ | (rw [tc_n c_87]; exact Nat.le_refl _) | (rw [tc_y c_87]; omega) | omega | decide) ?_
        exact key_68 (2 ^ (teO E n).2 - 0 + 1) 0 (by omega) (Nat.lt_succ_self _)
      · have hl14 : a9 < n := nle_lt (by omega) c_14
        have hma := teO_le E a9 (by omega)
        refine g_iconst (pc := 17) (v := 0) C (by decide) dL_trees_17 ?_
        refine g_istore (pc := 18) C [(4, .int 0), (0, .ref lo), (1, .ref q1), (2, .int (nI (teO E a9).2)), (3, .int (nI a9))] dL_trees_18 (by decide) rfl ?_
        have key_20 : ∀ (fuel : Nat) (w : Nat), w ≤ a9 → a9 - w < fuel → G p9 l e9 { frames := 1, cells := 32800, slots := 196700, locals := 20 } s9 m9 ([.ref lo] : List Value).toArray bl9 me9 co9 D 13 (va_A [(lo, .inr (13, [.ref eo, .ref e1, .ref e2, .ref e3, .ref e4, .ref e5, .int (nI n), .int (nI z), .int sw])), (eo, aR k 3 6 (fun i9 => if i9 < 6 then some (er i9) else none)), ((er 0), aI k 6 (EN E 0)), ((er 1), aI k 6 (EN E 1)), ((er 2), aI k 6 (EN E 2)), ((er 3), aI k 6 (EN E 3)), ((er 4), aI k 6 (EN E 4)), ((er 5), aI k 6 (EN E 5))] s9.heap.size) (QM bl9 D ([.ref lo] : List Value).toArray s9 [(lo, .inr (13, [.ref eo, .ref e1, .ref e2, .ref e3, .ref e4, .ref e5, .int (nI n), .int (nI z), .int sw])), (eo, aR k 3 6 (fun i9 => if i9 < 6 then some (er i9) else none)), ((er 0), aI k 6 (EN E 0)), ((er 1), aI k 6 (EN E 1)), ((er 2), aI k 6 (EN E 2)), ((er 3), aI k 6 (EN E 3)), ((er 4), aI k 6 (EN E 4)), ((er 5), aI k 6 (EN E 5))] (is1 (some (.long (if n = 1 then 1 else ttV E n))) [(lo, .inr (13, [.ref eo, .ref e1, .ref e2, .ref e3, .ref e4, .ref e5, .int (nI n), .int (nI z), .int sw])), (eo, aR k 3 6 (fun i9 => if i9 < 6 then some (er i9) else none)), ((er 0), aI k 6 (EN E 0)), ((er 1), aI k 6 (EN E 1)), ((er 2), aI k 6 (EN E 2)), ((er 3), aI k 6 (EN E 3)), ((er 4), aI k 6 (EN E 4)), ((er 5), aI k 6 (EN E 5))]) 32800 196700 0) [(lo, .inr (13, [.ref eo, .ref e1, .ref e2, .ref e3, .ref e4, .ref e5, .int (nI n), .int (nI z), .int sw])), (eo, aR k 3 6 (fun i9 => if i9 < 6 then some (er i9) else none)), ((er 0), aI k 6 (EN E 0)), ((er 1), aI k 6 (EN E 1)), ((er 2), aI k 6 (EN E 2)), ((er 3), aI k 6 (EN E 3)), ((er 4), aI k 6 (EN E 4)), ((er 5), aI k 6 (EN E 5)), (q1, aI k 30 (fun j9 => nI ((teI E a9 (teO E a9) w).1 j9)))] [(0, .ref lo), (1, .ref q1), (2, .int (nI (teI E a9 (teO E a9) w).2)), (3, .int (nI a9)), (4, .int (nI w))] 1 30 1 20 [] := by
          intro fuel
          induction fuel with
          | zero => intro w hw hm; exact absurd hm (Nat.not_lt_zero _)
          | succ fuel ih =>
            intro w hw hm
            have ih_20 := ih
            refine g_iload (pc := 20) C 4 rfl dL_trees_20 ?_
            refine g_iload_n (pc := 22) C 3 rfl rfl dL_trees_22 ?_
            refine g_icmp_ge (pc := 23) C 57 (by decide) dL_trees_23 (fun c_23 => ?_) (fun c_23 => ?_)
            · have h4 : w = a9 := by { have := nle_ge (b := a9) (a := w) (by omega) c_23; omega }
              refine g_iinc (pc := 57) (n := 1) (v := (nI (a9 + 1))) C 3 [(3, .int (nI (a9 + 1))), (0, .ref lo), (1, .ref q1), (2, .int (nI (teI E a9 (teO E a9) w).2)), (4, .int (nI w))] rfl (nI_1 a9) dL_trees_57 (by decide) rfl ?_
              refine g_goto (pc := 60) C 9 (by decide) dL_trees_60 ?_
              refine G.loc [1, 2, 3, 0] (lv' := [(0, .ref lo), (1, .ref q1), (2, .int (nI (teI E a9 (teO E a9) w).2)), (3, .int (nI (a9 + 1)))]) rfl ?_
              refine G.fn (fun j9 => nI ((teO E (a9 + 1)).1 j9)) 8 [(lo, .inr (13, [.ref eo, .ref e1, .ref e2, .ref e3, .ref e4, .ref e5, .int (nI n), .int (nI z), .int sw])), (eo, aR k 3 6 (fun i9 => if i9 < 6 then some (er i9) else none)), ((er 0), aI k 6 (EN E 0)), ((er 1), aI k 6 (EN E 1)), ((er 2), aI k 6 (EN E 2)), ((er 3), aI k 6 (EN E 3)), ((er 4), aI k 6 (EN E 4)), ((er 5), aI k 6 (EN E 5)), (q1, aI k 30 (fun j9 => nI ((teO E (a9 + 1)).1 j9)))] rfl (fun j hj => by rw [h4]; try rfl) rfl ?_
              refine G.eql (lv' := [(0, .ref lo), (1, .ref q1), (2, .int (nI (teO E (a9 + 1)).2)), (3, .int (nI (a9 + 1)))]) (congrArg (β := List (Nat × Value)) (fun z9 => [(0, .ref lo), (1, .ref q1), (2, .int z9), (3, .int (nI (a9 + 1)))]) (show ((nI (teI E a9 (teO E a9) w).2) : Int32) = (nI (teO E (a9 + 1)).2) from by rw [h4]; try rfl)) ?_
              exact ih_9 (a9 + 1) (by omega) (by omega)
            · have hl23 : w < a9 := nle_lt (by omega) c_23
              have hte := teI_le E a9 (teO E a9) w
              have hte2 : (teI E a9 (teO E a9) w).2 < 30 := by omega
              refine g_aload_n (pc := 26) C 0 rfl rfl dL_trees_26 ?_
              refine g_get (pc := 27) C (T := TXL) inXL 0 rfl rfl 0 (by decide) q_561 rfl rfl dL_trees_27 ?_
              refine g_iload_n (pc := 30) C 3 rfl rfl dL_trees_30 ?_
              refine g_aald (pc := 31) C (j := a9) (b := er a9) 1 rfl (by omega) (by decide) rfl (if_pos (by omega)) dL_trees_31 ?_
              refine g_iload (pc := 32) C 4 rfl dL_trees_32 ?_
              refine g_iald_n (pc := 34) (a := (er a9)) (n := 6) (f := (EN E a9)) C (j := w) (2 + a9) (by rcases (show a9 = 0 ∨ a9 = 1 ∨ a9 = 2 ∨ a9 = 3 ∨ a9 = 4 ∨ a9 = 5 by omega) with h9 | h9 | h9 | h9 | h9 | h9 <;> rw [h9] <;> rfl) (by omega) (by first | decide | omega) rfl dL_trees_34 ?_
              refine g_if_le (pc := 35) C 51 (by decide) dL_trees_35 (fun c_35 => ?_) (fun c_35 => ?_)
              · have c35 : E a9 w = 0 := (Nat.eq_zero_or_pos _).resolve_right (fun q => nI_nle q (by have := hE3 a9 w; omega) c_35)
                refine g_iinc (pc := 51) (n := 1) (v := (nI (w + 1))) C 4 [(4, .int (nI (w + 1))), (0, .ref lo), (1, .ref q1), (2, .int (nI (teI E a9 (teO E a9) w).2)), (3, .int (nI a9))] rfl (nI_1 w) dL_trees_51 (by decide) rfl ?_
                refine g_goto (pc := 54) C 20 (by decide) dL_trees_54 ?_
                refine G.loc [1, 2, 3, 4, 0] (lv' := [(0, .ref lo), (1, .ref q1), (2, .int (nI (teI E a9 (teO E a9) w).2)), (3, .int (nI a9)), (4, .int (nI (w + 1)))]) rfl ?_
                refine G.fn (fun j9 => nI ((teI E a9 (teO E a9) (w + 1)).1 j9)) 8 [(lo, .inr (13, [.ref eo, .ref e1, .ref e2, .ref e3, .ref e4, .ref e5, .int (nI n), .int (nI z), .int sw])), (eo, aR k 3 6 (fun i9 => if i9 < 6 then some (er i9) else none)), ((er 0), aI k 6 (EN E 0)), ((er 1), aI k 6 (EN E 1)), ((er 2), aI k 6 (EN E 2)), ((er 3), aI k 6 (EN E 3)), ((er 4), aI k 6 (EN E 4)), ((er 5), aI k 6 (EN E 5)), (q1, aI k 30 (fun j9 => nI ((teI E a9 (teO E a9) (w + 1)).1 j9)))] rfl (fun j hj => by first | (rw [te_n c35]) | (rw [te_y c35]; exact te_u j)) rfl ?_
                refine G.eql (lv' := [(0, .ref lo), (1, .ref q1), (2, .int (nI (teI E a9 (teO E a9) (w + 1)).2)), (3, .int (nI a9)), (4, .int (nI (w + 1)))]) (congrArg (β := List (Nat × Value)) (fun z9 => [(0, .ref lo), (1, .ref q1), (2, .int z9), (3, .int (nI a9)), (4, .int (nI (w + 1)))]) (show ((nI (teI E a9 (teO E a9) w).2) : Int32) = (nI (teI E a9 (teO E a9) (w + 1)).2) from by first | rfl | (rw [te_n c35]) | (rw [te_y c35]))) ?_
                exact ih_20 (w + 1) (by omega) (by omega)
              · have c35 : ¬ E a9 w = 0 := fun q => c_35 (by show nI (E a9 w) ≤ 0; rw [q]; decide)
                refine g_aload_n (pc := 38) C 1 rfl rfl dL_trees_38 ?_
                refine g_iload_n (pc := 39) C 2 rfl rfl dL_trees_39 ?_
                refine g_bipush (pc := 40) (v := 6) C (by decide) dL_trees_40 ?_
                refine g_iload_n (pc := 42) C 3 rfl rfl dL_trees_42 ?_
                refine g_imul (pc := 43) C dL_trees_43 ?_
                refine g_iload (pc := 44) C 4 rfl dL_trees_44 ?_
                refine g_iadd (pc := 46) C dL_trees_46 ?_
                refine G.eqs (st' := [.int (nI (6 * a9 + w)), .int (nI (teI E a9 (teO E a9) w).2), .ref q1]) (congrArg (β := List Value) (fun z9 => [.int z9, .int (nI (teI E a9 (teO E a9) w).2), .ref q1]) (show (((6 * (nI a9)) + (nI w)) : Int32) = (nI (6 * a9 + w)) from (by rw [show (6 : Int32) = nI 6 from rfl, pk_mul, nI_add]))) ?_
                refine g_iast_n (pc := 47) C (j := (teI E a9 (teO E a9) w).2) 8 [(lo, .inr (13, [.ref eo, .ref e1, .ref e2, .ref e3, .ref e4, .ref e5, .int (nI n), .int (nI z), .int sw])), (eo, aR k 3 6 (fun i9 => if i9 < 6 then some (er i9) else none)), ((er 0), aI k 6 (EN E 0)), ((er 1), aI k 6 (EN E 1)), ((er 2), aI k 6 (EN E 2)), ((er 3), aI k 6 (EN E 3)), ((er 4), aI k 6 (EN E 4)), ((er 5), aI k 6 (EN E 5)), (q1, aI k 30 (upd (fun j9 => nI ((teI E a9 (teO E a9) w).1 j9)) ((teI E a9 (teO E a9) w).2) (nI (6 * a9 + w))))] rfl (by omega) (by first | decide | omega) rfl rfl dL_trees_47 ?_
                refine g_iinc (pc := 48) (n := 1) (v := (nI ((teI E a9 (teO E a9) w).2 + 1))) C 2 [(2, .int (nI ((teI E a9 (teO E a9) w).2 + 1))), (0, .ref lo), (1, .ref q1), (3, .int (nI a9)), (4, .int (nI w))] rfl (nI_1 ((teI E a9 (teO E a9) w).2)) dL_trees_48 (by decide) rfl ?_
                refine g_iinc (pc := 51) (n := 1) (v := (nI (w + 1))) C 4 [(4, .int (nI (w + 1))), (2, .int (nI ((teI E a9 (teO E a9) w).2 + 1))), (0, .ref lo), (1, .ref q1), (3, .int (nI a9))] rfl (nI_1 w) dL_trees_51 (by decide) rfl ?_
                refine g_goto (pc := 54) C 20 (by decide) dL_trees_54 ?_
                refine G.loc [2, 3, 1, 4, 0] (lv' := [(0, .ref lo), (1, .ref q1), (2, .int (nI ((teI E a9 (teO E a9) w).2 + 1))), (3, .int (nI a9)), (4, .int (nI (w + 1)))]) rfl ?_
                refine G.fn (fun j9 => nI ((teI E a9 (teO E a9) (w + 1)).1 j9)) 8 [(lo, .inr (13, [.ref eo, .ref e1, .ref e2, .ref e3, .ref e4, .ref e5, .int (nI n), .int (nI z), .int sw])), (eo, aR k 3 6 (fun i9 => if i9 < 6 then some (er i9) else none)), ((er 0), aI k 6 (EN E 0)), ((er 1), aI k 6 (EN E 1)), ((er 2), aI k 6 (EN E 2)), ((er 3), aI k 6 (EN E 3)), ((er 4), aI k 6 (EN E 4)), ((er 5), aI k 6 (EN E 5)), (q1, aI k 30 (fun j9 => nI ((teI E a9 (teO E a9) (w + 1)).1 j9)))] rfl (fun j hj => by first | (rw [te_n c35]) | (rw [te_y c35]; exact te_u j)) rfl ?_
                refine G.eql (lv' := [(0, .ref lo), (1, .ref q1), (2, .int (nI (teI E a9 (teO E a9) (w + 1)).2)), (3, .int (nI a9)), (4, .int (nI (w + 1)))]) (congrArg (β := List (Nat × Value)) (fun z9 => [(0, .ref lo), (1, .ref q1), (2, .int z9), (3, .int (nI a9)), (4, .int (nI (w + 1)))]) (show ((nI ((teI E a9 (teO E a9) w).2 + 1)) : Int32) = (nI (teI E a9 (teO E a9) (w + 1)).2) from by first | rfl | (rw [te_n c35]) | (rw [te_y c35]))) ?_
                exact ih_20 (w + 1) (by omega) (by omega)
        refine G.loc [1, 2, 3, 4, 0] (lv' := [(0, .ref lo), (1, .ref q1), (2, .int (nI (teO E a9).2)), (3, .int (nI a9)), (4, .int 0)]) rfl ?_
        refine G.fn (fun j9 => nI ((teI E a9 (teO E a9) 0).1 j9)) 8 [(lo, .inr (13, [.ref eo, .ref e1, .ref e2, .ref e3, .ref e4, .ref e5, .int (nI n), .int (nI z), .int sw])), (eo, aR k 3 6 (fun i9 => if i9 < 6 then some (er i9) else none)), ((er 0), aI k 6 (EN E 0)), ((er 1), aI k 6 (EN E 1)), ((er 2), aI k 6 (EN E 2)), ((er 3), aI k 6 (EN E 3)), ((er 4), aI k 6 (EN E 4)), ((er 5), aI k 6 (EN E 5)), (q1, aI k 30 (fun j9 => nI ((teI E a9 (teO E a9) 0).1 j9)))] rfl (fun j hj => by rfl) rfl ?_
        refine G.eql (lv' := [(0, .ref lo), (1, .ref q1), (2, .int (nI (teI E a9 (teO E a9) 0).2)), (3, .int (nI a9)), (4, .int (nI 0))]) ((congrArg (β := List (Nat × Value)) (fun z9 => [(0, .ref lo), (1, .ref q1), (2, .int z9), (3, .int (nI a9)), (4, .int 0)]) (show ((nI (teO E a9).2) : Int32) = (nI (teI E a9 (teO E a9) 0).2) from by first | rfl | exact nI_0.symm)).trans (congrArg (β := List (Nat × Value)) (fun z9 => [(0, .ref lo), (1, .ref q1), (2, .int (nI (teI E a9 (teO E a9) 0).2)), (3, .int (nI a9)), (4, .int z9)]) (show (0 : Int32) = (nI 0) from by first | rfl | exact nI_0.symm))) ?_
        exact key_20 (a9 - 0 + 1) 0 (by omega) (Nat.lt_succ_self _)
  refine G.loc [3, 2, 1, 0] (lv' := [(0, .ref lo), (1, .ref q1), (2, .int 0), (3, .int 0)]) rfl ?_
  refine G.fn (fun j9 => nI ((teO E 0).1 j9)) 8 [(lo, .inr (13, [.ref eo, .ref e1, .ref e2, .ref e3, .ref e4, .ref e5, .int (nI n), .int (nI z), .int sw])), (eo, aR k 3 6 (fun i9 => if i9 < 6 then some (er i9) else none)), ((er 0), aI k 6 (EN E 0)), ((er 1), aI k 6 (EN E 1)), ((er 2), aI k 6 (EN E 2)), ((er 3), aI k 6 (EN E 3)), ((er 4), aI k 6 (EN E 4)), ((er 5), aI k 6 (EN E 5)), (q1, aI k 30 (fun j9 => nI ((teO E 0).1 j9)))] rfl (fun j hj => by exact nI_0.symm) rfl ?_
  refine G.eql (lv' := [(0, .ref lo), (1, .ref q1), (2, .int (nI (teO E 0).2)), (3, .int (nI 0))]) ((congrArg (β := List (Nat × Value)) (fun z9 => [(0, .ref lo), (1, .ref q1), (2, .int z9), (3, .int 0)]) (show (0 : Int32) = (nI (teO E 0).2) from by first | rfl | exact nI_0.symm)).trans (congrArg (β := List (Nat × Value)) (fun z9 => [(0, .ref lo), (1, .ref q1), (2, .int (nI (teO E 0).2)), (3, .int z9)]) (show (0 : Int32) = (nI 0) from by first | rfl | exact nI_0.symm))) ?_
  exact key_9 (n - 0 + 1) 0 (by omega) (Nat.lt_succ_self _)
