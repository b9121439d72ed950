theorem dX11_picture_0 : decode cX11_picture 0 = .ok (.aload_n 0, 1) := by decide +kernel
theorem dX11_picture_1 : decode cX11_picture 1 = .ok (.iload_n 1, 1) := by decide +kernel
theorem dX11_picture_2 : decode cX11_picture 2 = .ok (.iconst 3, 1) := by decide +kernel
theorem dX11_picture_3 : decode cX11_picture 3 = .ok (.bipush 9, 2) := by decide +kernel
theorem dX11_picture_5 : decode cX11_picture 5 = .ok (.invokestatic 49, 3) := by decide +kernel
theorem dX11_picture_8 : decode cX11_picture 8 = .ok (.ifCond .eq 20, 3) := by decide +kernel
theorem dX11_picture_11 : decode cX11_picture 11 = .ok (.iload_n 1, 1) := by decide +kernel
theorem dX11_picture_12 : decode cX11_picture 12 = .ok (.iconst 2, 1) := by decide +kernel
theorem dX11_picture_13 : decode cX11_picture 13 = .ok (.irem, 1) := by decide +kernel
theorem dX11_picture_14 : decode cX11_picture 14 = .ok (.ifCond .eq 14, 3) := by decide +kernel
theorem dX11_picture_17 : decode cX11_picture 17 = .ok (.iload_n 2, 1) := by decide +kernel
theorem dX11_picture_18 : decode cX11_picture 18 = .ok (.iconst 0, 1) := by decide +kernel
theorem dX11_picture_19 : decode cX11_picture 19 = .ok (.sipush 300, 3) := by decide +kernel
theorem dX11_picture_22 : decode cX11_picture 22 = .ok (.invokestatic 49, 3) := by decide +kernel
theorem dX11_picture_25 : decode cX11_picture 25 = .ok (.ifCond .ne 7, 3) := by decide +kernel
theorem dX11_picture_32 : decode cX11_picture 32 = .ok (.iconst 0, 1) := by decide +kernel
theorem dX11_picture_33 : decode cX11_picture 33 = .ok (.putfield 46, 3) := by decide +kernel
theorem dX11_picture_36 : decode cX11_picture 36 = .ok (.aload_n 0, 1) := by decide +kernel
theorem dX11_picture_37 : decode cX11_picture 37 = .ok (.getfield 46, 3) := by decide +kernel
theorem dX11_picture_40 : decode cX11_picture 40 = .ok (.ifCond .le 5, 3) := by decide +kernel
theorem dX11_picture_45 : decode cX11_picture 45 = .ok (.aload_n 0, 1) := by decide +kernel
theorem dX11_picture_46 : decode cX11_picture 46 = .ok (.iload_n 1, 1) := by decide +kernel
theorem dX11_picture_47 : decode cX11_picture 47 = .ok (.putfield 43, 3) := by decide +kernel
theorem dX11_picture_50 : decode cX11_picture 50 = .ok (.aload_n 0, 1) := by decide +kernel
theorem dX11_picture_51 : decode cX11_picture 51 = .ok (.iload_n 1, 1) := by decide +kernel
theorem dX11_picture_52 : decode cX11_picture 52 = .ok (.iload_n 1, 1) := by decide +kernel
theorem dX11_picture_53 : decode cX11_picture 53 = .ok (.imul, 1) := by decide +kernel
theorem dX11_picture_54 : decode cX11_picture 54 = .ok (.newarray .int, 2) := by decide +kernel
theorem dX11_picture_56 : decode cX11_picture 56 = .ok (.putfield 30, 3) := by decide +kernel
theorem dX11_picture_59 : decode cX11_picture 59 = .ok (.aload_n 0, 1) := by decide +kernel
theorem dX11_picture_60 : decode cX11_picture 60 = .ok (.getfield 30, 3) := by decide +kernel
theorem dX11_picture_63 : decode cX11_picture 63 = .ok (.iload_n 1, 1) := by decide +kernel
theorem dX11_picture_64 : decode cX11_picture 64 = .ok (.iload_n 1, 1) := by decide +kernel
theorem dX11_picture_65 : decode cX11_picture 65 = .ok (.imul, 1) := by decide +kernel
theorem dX11_picture_66 : decode cX11_picture 66 = .ok (.iconst 2, 1) := by decide +kernel
theorem dX11_picture_67 : decode cX11_picture 67 = .ok (.idiv, 1) := by decide +kernel
theorem dX11_picture_68 : decode cX11_picture 68 = .ok (.iload_n 2, 1) := by decide +kernel
theorem dX11_picture_69 : decode cX11_picture 69 = .ok (.iastore, 1) := by decide +kernel
theorem dX11_picture_70 : decode cX11_picture 70 = .ok (.iconst 0, 1) := by decide +kernel
theorem dX11_picture_71 : decode cX11_picture 71 = .ok (.istore_n 3, 1) := by decide +kernel
theorem dX11_picture_72 : decode cX11_picture 72 = .ok (.iconst 0, 1) := by decide +kernel
theorem dX11_picture_73 : decode cX11_picture 73 = .ok (.istore 4, 2) := by decide +kernel
theorem dX11_picture_75 : decode cX11_picture 75 = .ok (.iload 4, 2) := by decide +kernel
theorem dX11_picture_77 : decode cX11_picture 77 = .ok (.aload_n 0, 1) := by decide +kernel
theorem dX11_picture_78 : decode cX11_picture 78 = .ok (.getfield 30, 3) := by decide +kernel
theorem dX11_picture_81 : decode cX11_picture 81 = .ok (.arraylength, 1) := by decide +kernel
theorem dX11_picture_82 : decode cX11_picture 82 = .ok (.if_icmp .ge 127, 3) := by decide +kernel
theorem dX11_picture_209 : decode cX11_picture 209 = .ok (.iload_n 3, 1) := by decide +kernel
theorem dX11_picture_210 : decode cX11_picture 210 = .ok (.ireturn, 1) := by decide +kernel
theorem dX11_picture_85 : decode cX11_picture 85 = .ok (.aload_n 0, 1) := by decide +kernel
theorem dX11_picture_86 : decode cX11_picture 86 = .ok (.getfield 30, 3) := by decide +kernel
theorem dX11_picture_89 : decode cX11_picture 89 = .ok (.iload 4, 2) := by decide +kernel
theorem dX11_picture_91 : decode cX11_picture 91 = .ok (.iaload, 1) := by decide +kernel
theorem dX11_picture_92 : decode cX11_picture 92 = .ok (.iconst 4, 1) := by decide +kernel
theorem dX11_picture_93 : decode cX11_picture 93 = .ok (.if_icmp .ge 6, 3) := by decide +kernel
theorem dX11_picture_99 : decode cX11_picture 99 = .ok (.aload_n 0, 1) := by decide +kernel
theorem dX11_picture_100 : decode cX11_picture 100 = .ok (.getfield 30, 3) := by decide +kernel
theorem dX11_picture_103 : decode cX11_picture 103 = .ok (.iload 4, 2) := by decide +kernel
theorem dX11_picture_105 : decode cX11_picture 105 = .ok (.dup2, 1) := by decide +kernel
theorem dX11_picture_106 : decode cX11_picture 106 = .ok (.iaload, 1) := by decide +kernel
theorem dX11_picture_107 : decode cX11_picture 107 = .ok (.iconst 4, 1) := by decide +kernel
theorem dX11_picture_108 : decode cX11_picture 108 = .ok (.isub, 1) := by decide +kernel
theorem dX11_picture_109 : decode cX11_picture 109 = .ok (.iastore, 1) := by decide +kernel
theorem dX11_picture_110 : decode cX11_picture 110 = .ok (.iload 4, 2) := by decide +kernel
theorem dX11_picture_112 : decode cX11_picture 112 = .ok (.iload_n 1, 1) := by decide +kernel
theorem dX11_picture_113 : decode cX11_picture 113 = .ok (.if_icmp .lt 16, 3) := by decide +kernel
theorem dX11_picture_129 : decode cX11_picture 129 = .ok (.iload 4, 2) := by decide +kernel
theorem dX11_picture_131 : decode cX11_picture 131 = .ok (.iload_n 1, 1) := by decide +kernel
theorem dX11_picture_132 : decode cX11_picture 132 = .ok (.iadd, 1) := by decide +kernel
theorem dX11_picture_133 : decode cX11_picture 133 = .ok (.aload_n 0, 1) := by decide +kernel
theorem dX11_picture_134 : decode cX11_picture 134 = .ok (.getfield 30, 3) := by decide +kernel
theorem dX11_picture_137 : decode cX11_picture 137 = .ok (.arraylength, 1) := by decide +kernel
theorem dX11_picture_138 : decode cX11_picture 138 = .ok (.if_icmp .ge 16, 3) := by decide +kernel
theorem dX11_picture_154 : decode cX11_picture 154 = .ok (.iload 4, 2) := by decide +kernel
theorem dX11_picture_156 : decode cX11_picture 156 = .ok (.iload_n 1, 1) := by decide +kernel
theorem dX11_picture_157 : decode cX11_picture 157 = .ok (.irem, 1) := by decide +kernel
theorem dX11_picture_158 : decode cX11_picture 158 = .ok (.ifCond .le 16, 3) := by decide +kernel
theorem dX11_picture_174 : decode cX11_picture 174 = .ok (.iload 4, 2) := by decide +kernel
theorem dX11_picture_176 : decode cX11_picture 176 = .ok (.iload_n 1, 1) := by decide +kernel
theorem dX11_picture_177 : decode cX11_picture 177 = .ok (.irem, 1) := by decide +kernel
theorem dX11_picture_178 : decode cX11_picture 178 = .ok (.iload_n 1, 1) := by decide +kernel
theorem dX11_picture_179 : decode cX11_picture 179 = .ok (.iconst 1, 1) := by decide +kernel
theorem dX11_picture_180 : decode cX11_picture 180 = .ok (.isub, 1) := by decide +kernel
theorem dX11_picture_181 : decode cX11_picture 181 = .ok (.if_icmp .ge 16, 3) := by decide +kernel
theorem dX11_picture_197 : decode cX11_picture 197 = .ok (.iinc 3 1, 3) := by decide +kernel
theorem dX11_picture_200 : decode cX11_picture 200 = .ok (.iconst (-1), 1) := by decide +kernel
theorem dX11_picture_201 : decode cX11_picture 201 = .ok (.istore 4, 2) := by decide +kernel
theorem dX11_picture_203 : decode cX11_picture 203 = .ok (.iinc 4 1, 3) := by decide +kernel
theorem dX11_picture_206 : decode cX11_picture 206 = .ok (.goto (-131), 3) := by decide +kernel
theorem dX11_picture_184 : decode cX11_picture 184 = .ok (.aload_n 0, 1) := by decide +kernel
theorem dX11_picture_185 : decode cX11_picture 185 = .ok (.getfield 30, 3) := by decide +kernel
theorem dX11_picture_188 : decode cX11_picture 188 = .ok (.iload 4, 2) := by decide +kernel
theorem dX11_picture_190 : decode cX11_picture 190 = .ok (.iconst 1, 1) := by decide +kernel
theorem dX11_picture_191 : decode cX11_picture 191 = .ok (.iadd, 1) := by decide +kernel
theorem dX11_picture_192 : decode cX11_picture 192 = .ok (.dup2, 1) := by decide +kernel
theorem dX11_picture_193 : decode cX11_picture 193 = .ok (.iaload, 1) := by decide +kernel
theorem dX11_picture_194 : decode cX11_picture 194 = .ok (.iconst 1, 1) := by decide +kernel
theorem dX11_picture_195 : decode cX11_picture 195 = .ok (.iadd, 1) := by decide +kernel
theorem dX11_picture_196 : decode cX11_picture 196 = .ok (.iastore, 1) := by decide +kernel
theorem dX11_picture_161 : decode cX11_picture 161 = .ok (.aload_n 0, 1) := by decide +kernel
theorem dX11_picture_162 : decode cX11_picture 162 = .ok (.getfield 30, 3) := by decide +kernel
theorem dX11_picture_165 : decode cX11_picture 165 = .ok (.iload 4, 2) := by decide +kernel
theorem dX11_picture_167 : decode cX11_picture 167 = .ok (.iconst 1, 1) := by decide +kernel
theorem dX11_picture_168 : decode cX11_picture 168 = .ok (.isub, 1) := by decide +kernel
theorem dX11_picture_169 : decode cX11_picture 169 = .ok (.dup2, 1) := by decide +kernel
theorem dX11_picture_170 : decode cX11_picture 170 = .ok (.iaload, 1) := by decide +kernel
theorem dX11_picture_171 : decode cX11_picture 171 = .ok (.iconst 1, 1) := by decide +kernel
theorem dX11_picture_172 : decode cX11_picture 172 = .ok (.iadd, 1) := by decide +kernel
theorem dX11_picture_173 : decode cX11_picture 173 = .ok (.iastore, 1) := by decide +kernel
theorem dX11_picture_141 : decode cX11_picture 141 = .ok (.aload_n 0, 1) := by decide +kernel
theorem dX11_picture_142 : decode cX11_picture 142 = .ok (.getfield 30, 3) := by decide +kernel
theorem dX11_picture_145 : decode cX11_picture 145 = .ok (.iload 4, 2) := by decide +kernel
theorem dX11_picture_147 : decode cX11_picture 147 = .ok (.iload_n 1, 1) := by decide +kernel
theorem dX11_picture_148 : decode cX11_picture 148 = .ok (.iadd, 1) := by decide +kernel
theorem dX11_picture_149 : decode cX11_picture 149 = .ok (.dup2, 1) := by decide +kernel
theorem dX11_picture_150 : decode cX11_picture 150 = .ok (.iaload, 1) := by decide +kernel
theorem dX11_picture_151 : decode cX11_picture 151 = .ok (.iconst 1, 1) := by decide +kernel
theorem dX11_picture_152 : decode cX11_picture 152 = .ok (.iadd, 1) := by decide +kernel
theorem dX11_picture_153 : decode cX11_picture 153 = .ok (.iastore, 1) := by decide +kernel
theorem dX11_picture_116 : decode cX11_picture 116 = .ok (.aload_n 0, 1) := by decide +kernel
theorem dX11_picture_117 : decode cX11_picture 117 = .ok (.getfield 30, 3) := by decide +kernel
theorem dX11_picture_120 : decode cX11_picture 120 = .ok (.iload 4, 2) := by decide +kernel
theorem dX11_picture_122 : decode cX11_picture 122 = .ok (.iload_n 1, 1) := by decide +kernel
theorem dX11_picture_123 : decode cX11_picture 123 = .ok (.isub, 1) := by decide +kernel
theorem dX11_picture_124 : decode cX11_picture 124 = .ok (.dup2, 1) := by decide +kernel
theorem dX11_picture_125 : decode cX11_picture 125 = .ok (.iaload, 1) := by decide +kernel
theorem dX11_picture_126 : decode cX11_picture 126 = .ok (.iconst 1, 1) := by decide +kernel
theorem dX11_picture_127 : decode cX11_picture 127 = .ok (.iadd, 1) := by decide +kernel
theorem dX11_picture_128 : decode cX11_picture 128 = .ok (.iastore, 1) := by decide +kernel
theorem dX11_picture_96 : decode cX11_picture 96 = .ok (.goto 107, 3) := by decide +kernel
theorem dX11_picture_28 : decode cX11_picture 28 = .ok (.iconst 1, 1) := by decide +kernel
theorem dX11_picture_29 : decode cX11_picture 29 = .ok (.goto 4, 3) := by decide +kernel
theorem dX11_picture_43 : decode cX11_picture 43 = .ok (.iconst 0, 1) := by decide +kernel
theorem dX11_picture_44 : decode cX11_picture 44 = .ok (.ireturn, 1) := by decide +kernel
set_option maxRecDepth 100000 in
set_option maxHeartbeats 4000000 in
theorem c_X11_picture_s3 {l : Launch} {D : va_G} {k : Nat → ClassId} (mo : Nat) (e0 : Nat) (c1 : Nat) (c2 : Nat) (c3 : Nat) (c4 : Nat) (c5 : Nat) (th : Int32) (m : Nat) (hmm : m ≤ 300) : CM l D k yX11_picture cX11_picture 5 (some .int)  1 22 [.ref mo, .int (nI 3), .int (nI m)] [(mo, .inr (15, [.ref e0, .ref c1, .ref c2, .ref c3, .ref c4, .ref c5, .null, .int (nI 0), .int (nI 0), .int 0, .int 0, .int th]))] (fun rv9 w9 => rv9 = (some (.int (nI (picN 3 (fm 3 m))))) ∧ ∃ (qq : Nat) (gg : Nat → Int32), w9 = [(mo, .inr (15, [.ref e0, .ref c1, .ref c2, .ref c3, .ref c4, .ref c5, .ref qq, .int (nI 0), .int (nI 0), .int 0, .int (nI 3), .int 0])), (qq, aI k 9 gg)]) 1 9 1 := by
  refine CM.of (lv0 := [(0, .ref mo), (1, .int (nI 3)), (2, .int (nI m))]) (by decide +kernel) (Nat.le_of_ble_eq_true rfl) rfl ?_
  intro p9 e9 s9 m9 bl9 me9 co9 C hr hlk hin had
  refine g_aload_n (pc := 0) C 0 rfl rfl dX11_picture_0 ?_
  refine g_iload_n (pc := 1) C 1 rfl rfl dX11_picture_1 ?_
  refine g_iconst (pc := 2) (v := 3) C (by decide) dX11_picture_2 ?_
  refine g_bipush (pc := 3) (v := 9) C (by decide) dX11_picture_3 ?_
  refine g_callS (pc := 5) (cells := 0) (slots := 0) (g := 0) (As := [.int (nI 3), .int 3, .int 9]) (st := [.ref mo]) (b := 0) C (nA := 3) rfl (c_X11_in (nI 3) 3 9 ) q_266 q_267 q_265 q_264 (by decide +kernel) dX11_picture_5 ⟨Nat.le_of_ble_eq_true rfl, Nat.le_of_ble_eq_true rfl⟩ [] [0] rfl (wr := [(mo, .inr (15, [.ref e0, .ref c1, .ref c2, .ref c3, .ref c4, .ref c5, .null, .int (nI 0), .int (nI 0), .int 0, .int 0, .int th]))]) rfl (by decide) (by decide) (by decide) (Nat.le_of_ble_eq_true rfl) ⟨Nat.le_of_ble_eq_true rfl, Nat.le_of_ble_eq_true rfl⟩ (fun rv w1 h1 => ?_)
  obtain ⟨rfl, rfl⟩ := h1
  refine G.aft [0] (ws' := [(mo, .inr (15, [.ref e0, .ref c1, .ref c2, .ref c3, .ref c4, .ref c5, .null, .int (nI 0), .int (nI 0), .int 0, .int 0, .int th]))]) (st' := [.int (bI (inR (nI 3) 3 9)), .ref mo]) (cells' := 0) (slots' := 0) (g' := 0) (by decide) rfl rfl rfl rfl rfl ?_
  refine G.eqs (st' := [.int 1, .ref mo]) (congrArg (β := List Value) (fun z9 => [.int z9, .ref mo]) (show ((bI (inR (nI 3) 3 9)) : Int32) = 1 from by decide)) ?_
  refine g_if_eq (pc := 8) C 28 (by decide) dX11_picture_8 (fun c_8 => ?_) (fun c_8 => ?_)
  · exact absurd c_8 (by decide)
  · refine g_iload_n (pc := 11) C 1 rfl rfl dX11_picture_11 ?_
    refine g_iconst (pc := 12) (v := 2) C (by decide) dX11_picture_12 ?_
    refine g_irem (pc := 13) C (by first | assumption | decide) dX11_picture_13 ?_
    refine G.eqs (st' := [.int 1, .ref mo]) (congrArg (β := List Value) (fun z9 => [.int z9, .ref mo]) (show (((nI 3) - (nI 3) / 2 * 2) : Int32) = 1 from by decide)) ?_
    refine g_if_eq (pc := 14) C 28 (by decide) dX11_picture_14 (fun c_14 => ?_) (fun c_14 => ?_)
    · exact absurd c_14 (by decide)
    · refine g_iload_n (pc := 17) C 2 rfl rfl dX11_picture_17 ?_
      refine g_iconst (pc := 18) (v := 0) C (by decide) dX11_picture_18 ?_
      refine g_sipush (pc := 19) (v := 300) C (by decide) dX11_picture_19 ?_
      refine g_callS (pc := 22) (cells := 0) (slots := 0) (g := 0) (As := [.int (nI m), .int 0, .int 300]) (st := [.ref mo]) (b := 0) C (nA := 3) rfl (c_X11_in (nI m) 0 300 ) q_266 q_267 q_265 q_264 (by decide +kernel) dX11_picture_22 ⟨Nat.le_of_ble_eq_true rfl, Nat.le_of_ble_eq_true rfl⟩ [] [0] rfl (wr := [(mo, .inr (15, [.ref e0, .ref c1, .ref c2, .ref c3, .ref c4, .ref c5, .null, .int (nI 0), .int (nI 0), .int 0, .int 0, .int th]))]) rfl (by decide) (by decide) (by decide) (Nat.le_of_ble_eq_true rfl) ⟨Nat.le_of_ble_eq_true rfl, Nat.le_of_ble_eq_true rfl⟩ (fun rv w1 h1 => ?_)
      obtain ⟨rfl, rfl⟩ := h1
      refine G.aft [0] (ws' := [(mo, .inr (15, [.ref e0, .ref c1, .ref c2, .ref c3, .ref c4, .ref c5, .null, .int (nI 0), .int (nI 0), .int 0, .int 0, .int th]))]) (st' := [.int (bI (inR (nI m) 0 300)), .ref mo]) (cells' := 0) (slots' := 0) (g' := 0) (by decide) rfl rfl rfl rfl rfl ?_
      refine G.eqs (st' := [.int 1, .ref mo]) (congrArg (β := List Value) (fun z9 => [.int z9, .ref mo]) (show ((bI (inR (nI m) 0 300)) : Int32) = 1 from by rw [inR_m hmm]; rfl)) ?_
      refine g_if_ne (pc := 25) C 32 (by decide) dX11_picture_25 (fun c_25 => ?_) (fun c_25 => ?_)
      · refine g_iconst (pc := 32) (v := 0) C (by decide) dX11_picture_32 ?_
        refine g_put (pc := 33) C (T := TX11) inX11 0 rfl rfl 11 (by decide) q_262 rfl tyX11 tyX11_ok nmX11 rfl [(mo, .inr (15, [.ref e0, .ref c1, .ref c2, .ref c3, .ref c4, .ref c5, .null, .int (nI 0), .int (nI 0), .int 0, .int 0, .int 0]))] (tyX11_ok 11 (by decide)) rfl (by rfl) (Nat.le_of_ble_eq_true rfl) rfl dX11_picture_33 ?_
        refine g_aload_n (pc := 36) C 0 rfl rfl dX11_picture_36 ?_
        refine g_get (pc := 37) C (T := TX11) inX11 0 rfl rfl 11 (by decide) q_262 rfl rfl dX11_picture_37 ?_
        refine g_if_le (pc := 40) C 45 (by decide) dX11_picture_40 (fun c_40 => ?_) (fun c_40 => ?_)
        · refine g_aload_n (pc := 45) C 0 rfl rfl dX11_picture_45 ?_
          refine g_iload_n (pc := 46) C 1 rfl rfl dX11_picture_46 ?_
          refine g_put (pc := 47) C (T := TX11) inX11 0 rfl rfl 10 (by decide) q_303 rfl tyX11 tyX11_ok nmX11 rfl [(mo, .inr (15, [.ref e0, .ref c1, .ref c2, .ref c3, .ref c4, .ref c5, .null, .int (nI 0), .int (nI 0), .int 0, .int (nI 3), .int 0]))] (tyX11_ok 10 (by decide)) rfl (by rfl) (Nat.le_of_ble_eq_true rfl) rfl dX11_picture_47 ?_
          refine g_aload_n (pc := 50) C 0 rfl rfl dX11_picture_50 ?_
          refine g_iload_n (pc := 51) C 1 rfl rfl dX11_picture_51 ?_
          refine g_iload_n (pc := 52) C 1 rfl rfl dX11_picture_52 ?_
          refine g_imul (pc := 53) C dX11_picture_53 ?_
          refine g_newI (pc := 54) (cells := 0) (slots := 0) (g := 0) C 9 q_4 (by decide) (by decide) (Nat.le_of_ble_eq_true rfl) (Nat.le_of_ble_eq_true rfl) (Nat.le_of_ble_eq_true rfl) dX11_picture_54 (fun q1 => ?_)
          refine G.eqw (ws' := [(mo, .inr (15, [.ref e0, .ref c1, .ref c2, .ref c3, .ref c4, .ref c5, .null, .int (nI 0), .int (nI 0), .int 0, .int (nI 3), .int 0])), (q1, aI k 9 (fun _ => 0))]) rfl ?_
          refine g_put (pc := 56) C (T := TX11) inX11 0 rfl rfl 6 (by decide) q_293 rfl tyX11 tyX11_ok nmX11 rfl [(mo, .inr (15, [.ref e0, .ref c1, .ref c2, .ref c3, .ref c4, .ref c5, .ref q1, .int (nI 0), .int (nI 0), .int 0, .int (nI 3), .int 0])), (q1, aI k 9 (fun _ => 0))] (tyX11_ok 6 (by decide)) rfl rfl (Nat.le_of_ble_eq_true rfl) rfl dX11_picture_56 ?_
          refine g_aload_n (pc := 59) C 0 rfl rfl dX11_picture_59 ?_
          refine g_get (pc := 60) C (T := TX11) inX11 0 rfl rfl 6 (by decide) q_293 rfl rfl dX11_picture_60 ?_
          refine g_iload_n (pc := 63) C 1 rfl rfl dX11_picture_63 ?_
          refine g_iload_n (pc := 64) C 1 rfl rfl dX11_picture_64 ?_
          refine g_imul (pc := 65) C dX11_picture_65 ?_
          refine g_iconst (pc := 66) (v := 2) C (by decide) dX11_picture_66 ?_
          refine g_idiv (pc := 67) C (by first | assumption | decide) dX11_picture_67 ?_
          refine G.eqs (st' := [.int (nI 4), .ref q1]) (congrArg (β := List Value) (fun z9 => [.int z9, .ref q1]) (show ((((nI 3) * (nI 3)) / 2) : Int32) = (nI 4) from by decide)) ?_
          refine g_iload_n (pc := 68) C 2 rfl rfl dX11_picture_68 ?_
          refine g_iast_n (pc := 69) C (j := 4) 1 [(mo, .inr (15, [.ref e0, .ref c1, .ref c2, .ref c3, .ref c4, .ref c5, .ref q1, .int (nI 0), .int (nI 0), .int 0, .int (nI 3), .int 0])), (q1, aI k 9 (upd (fun _ => 0) 4 (nI m)))] rfl (by omega) (by first | decide | omega) rfl rfl dX11_picture_69 ?_
          refine G.fn (fun j9 => nI ((fm 3 m) j9)) 1 [(mo, .inr (15, [.ref e0, .ref c1, .ref c2, .ref c3, .ref c4, .ref c5, .ref q1, .int (nI 0), .int (nI 0), .int 0, .int (nI 3), .int 0])), (q1, aI k 9 (fun j9 => nI ((fm 3 m) j9)))] rfl (fun j hj => by { show upd (fun _ => 0) 4 (nI m) j = nI (if j = 4 then m else 0); unfold upd; by_cases h : j = 4 <;> simp [h, nI_0] }) rfl ?_
          refine g_iconst (pc := 70) (v := 0) C (by decide) dX11_picture_70 ?_
          refine g_istore_n (pc := 71) C [(3, .int 0), (0, .ref mo), (1, .int (nI 3)), (2, .int (nI m))] rfl dX11_picture_71 (by decide) rfl ?_
          refine g_iconst (pc := 72) (v := 0) C (by decide) dX11_picture_72 ?_
          refine g_istore (pc := 73) C [(4, .int 0), (3, .int 0), (0, .ref mo), (1, .int (nI 3)), (2, .int (nI m))] dX11_picture_73 (by decide) rfl ?_
          have key_75 : ∀ (fuel : Nat) (c : Nat) (g : Nat → Nat) (v : Nat → Nat), Went 3 (fm 3 m) g v → c ≤ 9 → (∀ j, j < c → g j < 4) → (327 - sumN v (3 * 3)) * 10 + (9 - c) < fuel → G p9 l e9 { frames := 1, cells := 1, slots := 9, locals := 22 } s9 m9 ([.ref mo, .int (nI 3), .int (nI m)] : List Value).toArray bl9 me9 co9 D 5 (va_A [(mo, .inr (15, [.ref e0, .ref c1, .ref c2, .ref c3, .ref c4, .ref c5, .null, .int (nI 0), .int (nI 0), .int 0, .int 0, .int th]))] s9.heap.size) (QM bl9 D ([.ref mo, .int (nI 3), .int (nI m)] : List Value).toArray s9 [(mo, .inr (15, [.ref e0, .ref c1, .ref c2, .ref c3, .ref c4, .ref c5, .null, .int (nI 0), .int (nI 0), .int 0, .int 0, .int th]))] (fun rv9 w9 => rv9 = (some (.int (nI (picN 3 (fm 3 m))))) ∧ ∃ (qq : Nat) (gg : Nat → Int32), w9 = [(mo, .inr (15, [.ref e0, .ref c1, .ref c2, .ref c3, .ref c4, .ref c5, .ref qq, .int (nI 0), .int (nI 0), .int 0, .int (nI 3), .int 0])), (qq, aI k 9 gg)]) 1 9 1) [(mo, .inr (15, [.ref e0, .ref c1, .ref c2, .ref c3, .ref c4, .ref c5, .ref q1, .int (nI 0), .int (nI 0), .int 0, .int (nI 3), .int 0])), (q1, aI k 9 (fun j9 => nI (g j9)))] [(0, .ref mo), (1, .int (nI 3)), (2, .int (nI m)), (3, .int (nI (sumN v (3 * 3)))), (4, .int (nI c))] 1 9 1 75 [] := by
            intro fuel
            induction fuel with
            | zero => intro c g v hW hc hq hm; exact absurd hm (Nat.not_lt_zero _)
            | succ fuel ih =>
              intro c g v hW hc hq hm
              have ih_75 := ih
              have hsum := went_sum hmm hW pw3_s
              rw [pw3_n] at hsum
              have hbnd := went_bnd hmm hW pw3_s pw3_b
              refine g_iload (pc := 75) C 4 rfl dX11_picture_75 ?_
              refine g_aload_n (pc := 77) C 0 rfl rfl dX11_picture_77 ?_
              refine g_get (pc := 78) C (T := TX11) inX11 0 rfl rfl 6 (by decide) q_293 rfl rfl dX11_picture_78 ?_
              refine g_alen (pc := 81) C 1 rfl (t0 := 0) rfl (v := (nI 9)) rfl dX11_picture_81 ?_
              refine g_icmp_ge (pc := 82) C 209 (by decide) dX11_picture_82 (fun c_82 => ?_) (fun c_82 => ?_)
              · have k82 : 9 ≤ c := by rcases Nat.lt_or_ge (c) (9) with q | q; exact absurd (show nI (9) ≤ nI (c) from c_82) (nI_ge q (by omega)); exact q
                refine g_iload_n (pc := 209) C 3 rfl rfl dX11_picture_209 ?_
                refine G.eqs (st' := [.int (nI (picN 3 (fm 3 m)))]) (congrArg (fun z9 => [Value.int z9]) (show ((nI (sumN v (3 * 3))) : Int32) = (nI (picN 3 (fm 3 m))) from by first | rfl | (rw [picN_eq hW (fun j hj => hq j (by omega))]))) ?_
                exact g_iret (pc := 210) C hr hlk (by first | decide | omega) (by first | decide | omega) (by first | decide | omega) dX11_picture_210 ⟨rfl, q1, (fun j9 => nI (g j9)), rfl⟩
              · have k82 : c < 9 := by rcases Nat.lt_or_ge (c) (9) with q | q; exact q; exact absurd (show nI (9) ≤ nI (c) from nI_le q (by omega)) c_82
                have hbc := hbnd c (show c < (3 * 3) by omega)
                refine g_aload_n (pc := 85) C 0 rfl rfl dX11_picture_85 ?_
                refine g_get (pc := 86) C (T := TX11) inX11 0 rfl rfl 6 (by decide) q_293 rfl rfl dX11_picture_86 ?_
                refine g_iload (pc := 89) C 4 rfl dX11_picture_89 ?_
                refine g_iald_n (pc := 91) C (j := c) 1 rfl (by omega) (by first | decide | omega) rfl dX11_picture_91 ?_
                refine G.eqs (st' := [.int (nI (g c))]) (congrArg (β := List Value) (fun z9 => [.int z9]) (show (((fun j9 => nI (g j9)) c) : Int32) = (nI (g c)) from rfl)) ?_
                refine g_iconst (pc := 92) (v := 4) C (by decide) dX11_picture_92 ?_
                refine g_icmp_ge (pc := 93) C 99 (by decide) dX11_picture_93 (fun c_93 => ?_) (fun c_93 => ?_)
                · have k93 : 4 ≤ g c := by rcases Nat.lt_or_ge (g c) (4) with q | q; exact absurd (show nI (4) ≤ nI (g c) from c_93) (nI_ge q (by omega)); exact q
                  have hsum2 := went_sum hmm (went_step (by decide) hW (show c < (3 * 3) by omega) (show 4 * 1 ≤ g c by omega)) pw3_s
                  rw [pw3_n, sumN_adv1 _ _ _ _ (show c < (3 * 3) by omega)] at hsum2
                  refine g_aload_n (pc := 99) C 0 rfl rfl dX11_picture_99 ?_
                  refine g_get (pc := 100) C (T := TX11) inX11 0 rfl rfl 6 (by decide) q_293 rfl rfl dX11_picture_100 ?_
                  refine g_iload (pc := 103) C 4 rfl dX11_picture_103 ?_
                  refine g_dup2 (pc := 105) C rfl rfl dX11_picture_105 ?_
                  refine g_iald_n (pc := 106) C (j := c) 1 rfl (by omega) (by first | decide | omega) rfl dX11_picture_106 ?_
                  refine G.eqs (st' := [.int (nI (g c)), .int (nI c), .ref q1]) (congrArg (β := List Value) (fun z9 => [.int z9, .int (nI c), .ref q1]) (show (((fun j9 => nI (g j9)) c) : Int32) = (nI (g c)) from rfl)) ?_
                  refine g_iconst (pc := 107) (v := 4) C (by decide) dX11_picture_107 ?_
                  refine g_isub (pc := 108) C dX11_picture_108 ?_
                  refine G.eqs (st' := [.int (nI (g c - 4)), .int (nI c), .ref q1]) (congrArg (β := List Value) (fun z9 => [.int z9, .int (nI c), .ref q1]) (show (((nI (g c)) - 4) : Int32) = (nI (g c - 4)) from by rw [show (4 : Int32) = nI 4 from rfl]; exact pk_sub (by omega))) ?_
                  refine g_iast_n (pc := 109) C (j := c) 1 [(mo, .inr (15, [.ref e0, .ref c1, .ref c2, .ref c3, .ref c4, .ref c5, .ref q1, .int (nI 0), .int (nI 0), .int 0, .int (nI 3), .int 0])), (q1, aI k 9 (upd (fun j9 => nI (g j9)) c (nI (g c - 4))))] rfl (by omega) (by first | decide | omega) rfl rfl dX11_picture_109 ?_
                  refine G.fn (fun j9 => nI ((sb g c 4) j9)) 1 [(mo, .inr (15, [.ref e0, .ref c1, .ref c2, .ref c3, .ref c4, .ref c5, .ref q1, .int (nI 0), .int (nI 0), .int 0, .int (nI 3), .int 0])), (q1, aI k 9 (fun j9 => nI ((sb g c 4) j9)))] rfl (fun j hj => by exact sb_put _ _ _ j) rfl ?_
                  refine g_iload (pc := 110) C 4 rfl dX11_picture_110 ?_
                  refine g_iload_n (pc := 112) C 1 rfl rfl dX11_picture_112 ?_
                  refine g_icmp_lt (pc := 113) C 129 (by decide) dX11_picture_113 (fun c_113 => ?_) (fun c_113 => ?_)
                  · have k113 : c < 3 := by rcases Nat.lt_or_ge (c) (3) with q | q; exact q; exact absurd c_113 (nI_nlt q (by omega))
                    refine g_iload (pc := 129) C 4 rfl dX11_picture_129 ?_
                    refine g_iload_n (pc := 131) C 1 rfl rfl dX11_picture_131 ?_
                    refine g_iadd (pc := 132) C dX11_picture_132 ?_
                    refine G.eqs (st' := [.int (nI (c + 3))]) (congrArg (β := List Value) (fun z9 => [.int z9]) (show (((nI c) + (nI 3)) : Int32) = (nI (c + 3)) from nI_add c 3)) ?_
                    refine g_aload_n (pc := 133) C 0 rfl rfl dX11_picture_133 ?_
                    refine g_get (pc := 134) C (T := TX11) inX11 0 rfl rfl 6 (by decide) q_293 rfl rfl dX11_picture_134 ?_
                    refine g_alen (pc := 137) C 1 rfl (t0 := 0) rfl (v := (nI 9)) rfl dX11_picture_137 ?_
                    refine g_icmp_ge (pc := 138) C 154 (by decide) dX11_picture_138 (fun c_138 => ?_) (fun c_138 => ?_)
                    · have k138 : 9 ≤ c + 3 := by rcases Nat.lt_or_ge (c + 3) (9) with q | q; exact absurd (show nI (9) ≤ nI (c + 3) from c_138) (nI_ge q (by omega)); exact q
                      refine g_iload (pc := 154) C 4 rfl dX11_picture_154 ?_
                      refine g_iload_n (pc := 156) C 1 rfl rfl dX11_picture_156 ?_
                      refine g_irem (pc := 157) C (by first | assumption | decide) dX11_picture_157 ?_
                      refine G.eqs (st' := [.int (nI (c % 3))]) (congrArg (β := List Value) (fun z9 => [.int z9]) (show (((nI c) - (nI c) / (nI 3) * (nI 3)) : Int32) = (nI (c % 3)) from pk_rem (by omega) (by decide) (by decide))) ?_
                      refine g_if_le (pc := 158) C 174 (by decide) dX11_picture_158 (fun c_158 => ?_) (fun c_158 => ?_)
                      · have k158 : c % 3 = 0 := by rcases Nat.eq_zero_or_pos (c % 3) with q | q; exact q; exact absurd c_158 (nI_nle q (by omega))
                        refine g_iload (pc := 174) C 4 rfl dX11_picture_174 ?_
                        refine g_iload_n (pc := 176) C 1 rfl rfl dX11_picture_176 ?_
                        refine g_irem (pc := 177) C (by first | assumption | decide) dX11_picture_177 ?_
                        refine G.eqs (st' := [.int (nI (c % 3))]) (congrArg (β := List Value) (fun z9 => [.int z9]) (show (((nI c) - (nI c) / (nI 3) * (nI 3)) : Int32) = (nI (c % 3)) from pk_rem (by omega) (by decide) (by decide))) ?_
                        refine g_iload_n (pc := 178) C 1 rfl rfl dX11_picture_178 ?_
                        refine g_iconst (pc := 179) (v := 1) C (by decide) dX11_picture_179 ?_
                        refine g_isub (pc := 180) C dX11_picture_180 ?_
                        refine G.eqs (st' := [.int (nI 2), .int (nI (c % 3))]) (congrArg (β := List Value) (fun z9 => [.int z9, .int (nI (c % 3))]) (show (((nI 3) - 1) : Int32) = (nI 2) from by decide)) ?_
                        refine g_icmp_ge (pc := 181) C 197 (by decide) dX11_picture_181 (fun c_181 => ?_) (fun c_181 => ?_)
                        · have k181 : 2 ≤ c % 3 := by rcases Nat.lt_or_ge (c % 3) (2) with q | q; exact absurd (show nI (2) ≤ nI (c % 3) from c_181) (nI_ge q (by omega)); exact q
                          refine g_iinc (pc := 197) (n := 1) (v := (nI ((sumN v (3 * 3)) + 1))) C 3 [(3, .int (nI ((sumN v (3 * 3)) + 1))), (0, .ref mo), (1, .int (nI 3)), (2, .int (nI m)), (4, .int (nI c))] rfl (nI_1 (sumN v (3 * 3))) dX11_picture_197 (by decide) rfl ?_
                          refine g_iconst (pc := 200) (v := (-1)) C (by decide) dX11_picture_200 ?_
                          refine g_istore (pc := 201) C [(4, .int (-1)), (3, .int (nI ((sumN v (3 * 3)) + 1))), (0, .ref mo), (1, .int (nI 3)), (2, .int (nI m))] dX11_picture_201 (by decide) rfl ?_
                          refine g_iinc (pc := 203) (n := 1) (v := ((-1) + 1)) C 0 [(4, .int ((-1) + 1)), (3, .int (nI ((sumN v (3 * 3)) + 1))), (0, .ref mo), (1, .int (nI 3)), (2, .int (nI m))] rfl rfl dX11_picture_203 (by decide) rfl ?_
                          refine g_goto (pc := 206) C 75 (by decide) dX11_picture_206 ?_
                          refine G.loc [2, 3, 4, 1, 0] (lv' := [(0, .ref mo), (1, .int (nI 3)), (2, .int (nI m)), (3, .int (nI ((sumN v (3 * 3)) + 1))), (4, .int ((-1) + 1))]) rfl ?_
                          refine G.fn (fun j9 => nI ((tpl 3 c 1 g) j9)) 1 [(mo, .inr (15, [.ref e0, .ref c1, .ref c2, .ref c3, .ref c4, .ref c5, .ref q1, .int (nI 0), .int (nI 0), .int 0, .int (nI 3), .int 0])), (q1, aI k 9 (fun j9 => nI ((tpl 3 c 1 g) j9)))] rfl (fun j hj => by first | rfl | (exact congrArg nI (by simp only [ad, sb, tpl, nbr]; repeat' (first | omega | split)))) rfl ?_
                          refine G.eql (lv' := [(0, .ref mo), (1, .int (nI 3)), (2, .int (nI m)), (3, .int (nI (sumN (adv v c 1) (3 * 3)))), (4, .int (nI 0))]) ((congrArg (β := List (Nat × Value)) (fun z9 => [(0, .ref mo), (1, .int (nI 3)), (2, .int (nI m)), (3, .int z9), (4, .int ((-1) + 1))]) (show ((nI ((sumN v (3 * 3)) + 1)) : Int32) = (nI (sumN (adv v c 1) (3 * 3))) from by first | rfl | decide | (rw [sumN_adv1 _ _ _ _ (show c < (3 * 3) by omega)]))).trans (congrArg (β := List (Nat × Value)) (fun z9 => [(0, .ref mo), (1, .int (nI 3)), (2, .int (nI m)), (3, .int (nI (sumN (adv v c 1) (3 * 3)))), (4, .int z9)]) (show (((-1) + 1) : Int32) = (nI 0) from by first | rfl | decide | (rw [sumN_adv1 _ _ _ _ (show c < (3 * 3) by omega)])))) ?_
                          exact ih_75 0 (tpl 3 c 1 g) (adv v c 1) (by first | exact hW | exact went_step (by decide) hW (show c < (3 * 3) by omega) (by omega)) (by omega) (by first | exact fun j hj => absurd hj (Nat.not_lt_zero j) | exact fun j hj => (by rcases Nat.lt_or_ge j c with q | q; exact hq j q; rw [show j = c by omega]; exact k93)) (by first | omega | (rw [sumN_adv1 _ _ _ _ (show c < (3 * 3) by omega)]; omega))
                        · have k181 : c % 3 < 2 := by rcases Nat.lt_or_ge (c % 3) (2) with q | q; exact q; exact absurd (show nI (2) ≤ nI (c % 3) from nI_le q (by omega)) c_181
                          refine g_aload_n (pc := 184) C 0 rfl rfl dX11_picture_184 ?_
                          refine g_get (pc := 185) C (T := TX11) inX11 0 rfl rfl 6 (by decide) q_293 rfl rfl dX11_picture_185 ?_
                          refine g_iload (pc := 188) C 4 rfl dX11_picture_188 ?_
                          refine g_iconst (pc := 190) (v := 1) C (by decide) dX11_picture_190 ?_
                          refine g_iadd (pc := 191) C dX11_picture_191 ?_
                          refine G.eqs (st' := [.int (nI (c + 1)), .ref q1]) (congrArg (β := List Value) (fun z9 => [.int z9, .ref q1]) (show (((nI c) + 1) : Int32) = (nI (c + 1)) from nI_1 c)) ?_
                          refine g_dup2 (pc := 192) C rfl rfl dX11_picture_192 ?_
                          refine g_iald_n (pc := 193) C (j := (c + 1)) 1 rfl (by omega) (by first | decide | omega) rfl dX11_picture_193 ?_
                          refine g_iconst (pc := 194) (v := 1) C (by decide) dX11_picture_194 ?_
                          refine g_iadd (pc := 195) C dX11_picture_195 ?_
                          refine g_iast_n (pc := 196) C (j := (c + 1)) 1 [(mo, .inr (15, [.ref e0, .ref c1, .ref c2, .ref c3, .ref c4, .ref c5, .ref q1, .int (nI 0), .int (nI 0), .int 0, .int (nI 3), .int 0])), (q1, aI k 9 (upd (fun j9 => nI ((sb g c 4) j9)) (c + 1) (((fun j9 => nI ((sb g c 4) j9)) (c + 1)) + 1)))] rfl (by omega) (by first | decide | omega) rfl rfl dX11_picture_196 ?_
                          refine G.fn (fun j9 => nI ((ad (sb g c 4) (c + 1) 1) j9)) 1 [(mo, .inr (15, [.ref e0, .ref c1, .ref c2, .ref c3, .ref c4, .ref c5, .ref q1, .int (nI 0), .int (nI 0), .int 0, .int (nI 3), .int 0])), (q1, aI k 9 (fun j9 => nI ((ad (sb g c 4) (c + 1) 1) j9)))] rfl (fun j hj => by exact ad_step _ _ _ j) rfl ?_
                          refine g_iinc (pc := 197) (n := 1) (v := (nI ((sumN v (3 * 3)) + 1))) C 3 [(3, .int (nI ((sumN v (3 * 3)) + 1))), (0, .ref mo), (1, .int (nI 3)), (2, .int (nI m)), (4, .int (nI c))] rfl (nI_1 (sumN v (3 * 3))) dX11_picture_197 (by decide) rfl ?_
                          refine g_iconst (pc := 200) (v := (-1)) C (by decide) dX11_picture_200 ?_
                          refine g_istore (pc := 201) C [(4, .int (-1)), (3, .int (nI ((sumN v (3 * 3)) + 1))), (0, .ref mo), (1, .int (nI 3)), (2, .int (nI m))] dX11_picture_201 (by decide) rfl ?_
                          refine g_iinc (pc := 203) (n := 1) (v := ((-1) + 1)) C 0 [(4, .int ((-1) + 1)), (3, .int (nI ((sumN v (3 * 3)) + 1))), (0, .ref mo), (1, .int (nI 3)), (2, .int (nI m))] rfl rfl dX11_picture_203 (by decide) rfl ?_
                          refine g_goto (pc := 206) C 75 (by decide) dX11_picture_206 ?_
                          refine G.loc [2, 3, 4, 1, 0] (lv' := [(0, .ref mo), (1, .int (nI 3)), (2, .int (nI m)), (3, .int (nI ((sumN v (3 * 3)) + 1))), (4, .int ((-1) + 1))]) rfl ?_
                          refine G.fn (fun j9 => nI ((tpl 3 c 1 g) j9)) 1 [(mo, .inr (15, [.ref e0, .ref c1, .ref c2, .ref c3, .ref c4, .ref c5, .ref q1, .int (nI 0), .int (nI 0), .int 0, .int (nI 3), .int 0])), (q1, aI k 9 (fun j9 => nI ((tpl 3 c 1 g) j9)))] rfl (fun j hj => by first | rfl | (exact congrArg nI (by simp only [ad, sb, tpl, nbr]; repeat' (first | omega | split)))) rfl ?_
                          refine G.eql (lv' := [(0, .ref mo), (1, .int (nI 3)), (2, .int (nI m)), (3, .int (nI (sumN (adv v c 1) (3 * 3)))), (4, .int (nI 0))]) ((congrArg (β := List (Nat × Value)) (fun z9 => [(0, .ref mo), (1, .int (nI 3)), (2, .int (nI m)), (3, .int z9), (4, .int ((-1) + 1))]) (show ((nI ((sumN v (3 * 3)) + 1)) : Int32) = (nI (sumN (adv v c 1) (3 * 3))) from by first | rfl | decide | (rw [sumN_adv1 _ _ _ _ (show c < (3 * 3) by omega)]))).trans (congrArg (β := List (Nat × Value)) (fun z9 => [(0, .ref mo), (1, .int (nI 3)), (2, .int (nI m)), (3, .int (nI (sumN (adv v c 1) (3 * 3)))), (4, .int z9)]) (show (((-1) + 1) : Int32) = (nI 0) from by first | rfl | decide | (rw [sumN_adv1 _ _ _ _ (show c < (3 * 3) by omega)])))) ?_
                          exact ih_75 0 (tpl 3 c 1 g) (adv v c 1) (by first | exact hW | exact went_step (by decide) hW (show c < (3 * 3) by omega) (by omega)) (by omega) (by first | exact fun j hj => absurd hj (Nat.not_lt_zero j) | exact fun j hj => (by rcases Nat.lt_or_ge j c with q | q; exact hq j q; rw [show j = c by omega]; exact k93)) (by first | omega | (rw [sumN_adv1 _ _ _ _ (show c < (3 * 3) by omega)]; omega))
                      · have k158 : 0 < c % 3 := by rcases Nat.eq_zero_or_pos (c % 3) with q | q; rw [q] at c_158; exact absurd (show nI 0 ≤ 0 by decide) c_158; exact q
                        refine g_aload_n (pc := 161) C 0 rfl rfl dX11_picture_161 ?_
                        refine g_get (pc := 162) C (T := TX11) inX11 0 rfl rfl 6 (by decide) q_293 rfl rfl dX11_picture_162 ?_
                        refine g_iload (pc := 165) C 4 rfl dX11_picture_165 ?_
                        refine g_iconst (pc := 167) (v := 1) C (by decide) dX11_picture_167 ?_
                        refine g_isub (pc := 168) C dX11_picture_168 ?_
                        refine G.eqs (st' := [.int (nI (c - 1)), .ref q1]) (congrArg (β := List Value) (fun z9 => [.int z9, .ref q1]) (show (((nI c) - 1) : Int32) = (nI (c - 1)) from by rw [show (1 : Int32) = nI 1 from rfl]; exact pk_sub (by omega))) ?_
                        refine g_dup2 (pc := 169) C rfl rfl dX11_picture_169 ?_
                        refine g_iald_n (pc := 170) C (j := (c - 1)) 1 rfl (by omega) (by first | decide | omega) rfl dX11_picture_170 ?_
                        refine g_iconst (pc := 171) (v := 1) C (by decide) dX11_picture_171 ?_
                        refine g_iadd (pc := 172) C dX11_picture_172 ?_
                        refine g_iast_n (pc := 173) C (j := (c - 1)) 1 [(mo, .inr (15, [.ref e0, .ref c1, .ref c2, .ref c3, .ref c4, .ref c5, .ref q1, .int (nI 0), .int (nI 0), .int 0, .int (nI 3), .int 0])), (q1, aI k 9 (upd (fun j9 => nI ((sb g c 4) j9)) (c - 1) (((fun j9 => nI ((sb g c 4) j9)) (c - 1)) + 1)))] rfl (by omega) (by first | decide | omega) rfl rfl dX11_picture_173 ?_
                        refine G.fn (fun j9 => nI ((ad (sb g c 4) (c - 1) 1) j9)) 1 [(mo, .inr (15, [.ref e0, .ref c1, .ref c2, .ref c3, .ref c4, .ref c5, .ref q1, .int (nI 0), .int (nI 0), .int 0, .int (nI 3), .int 0])), (q1, aI k 9 (fun j9 => nI ((ad (sb g c 4) (c - 1) 1) j9)))] rfl (fun j hj => by exact ad_step _ _ _ j) rfl ?_
                        refine g_iload (pc := 174) C 4 rfl dX11_picture_174 ?_
                        refine g_iload_n (pc := 176) C 1 rfl rfl dX11_picture_176 ?_
                        refine g_irem (pc := 177) C (by first | assumption | decide) dX11_picture_177 ?_
                        refine G.eqs (st' := [.int (nI (c % 3))]) (congrArg (β := List Value) (fun z9 => [.int z9]) (show (((nI c) - (nI c) / (nI 3) * (nI 3)) : Int32) = (nI (c % 3)) from pk_rem (by omega) (by decide) (by decide))) ?_
                        refine g_iload_n (pc := 178) C 1 rfl rfl dX11_picture_178 ?_
                        refine g_iconst (pc := 179) (v := 1) C (by decide) dX11_picture_179 ?_
                        refine g_isub (pc := 180) C dX11_picture_180 ?_
                        refine G.eqs (st' := [.int (nI 2), .int (nI (c % 3))]) (congrArg (β := List Value) (fun z9 => [.int z9, .int (nI (c % 3))]) (show (((nI 3) - 1) : Int32) = (nI 2) from by decide)) ?_
                        refine g_icmp_ge (pc := 181) C 197 (by decide) dX11_picture_181 (fun c_181 => ?_) (fun c_181 => ?_)
                        · have k181 : 2 ≤ c % 3 := by rcases Nat.lt_or_ge (c % 3) (2) with q | q; exact absurd (show nI (2) ≤ nI (c % 3) from c_181) (nI_ge q (by omega)); exact q
                          refine g_iinc (pc := 197) (n := 1) (v := (nI ((sumN v (3 * 3)) + 1))) C 3 [(3, .int (nI ((sumN v (3 * 3)) + 1))), (0, .ref mo), (1, .int (nI 3)), (2, .int (nI m)), (4, .int (nI c))] rfl (nI_1 (sumN v (3 * 3))) dX11_picture_197 (by decide) rfl ?_
                          refine g_iconst (pc := 200) (v := (-1)) C (by decide) dX11_picture_200 ?_
                          refine g_istore (pc := 201) C [(4, .int (-1)), (3, .int (nI ((sumN v (3 * 3)) + 1))), (0, .ref mo), (1, .int (nI 3)), (2, .int (nI m))] dX11_picture_201 (by decide) rfl ?_
                          refine g_iinc (pc := 203) (n := 1) (v := ((-1) + 1)) C 0 [(4, .int ((-1) + 1)), (3, .int (nI ((sumN v (3 * 3)) + 1))), (0, .ref mo), (1, .int (nI 3)), (2, .int (nI m))] rfl rfl dX11_picture_203 (by decide) rfl ?_
                          refine g_goto (pc := 206) C 75 (by decide) dX11_picture_206 ?_
                          refine G.loc [2, 3, 4, 1, 0] (lv' := [(0, .ref mo), (1, .int (nI 3)), (2, .int (nI m)), (3, .int (nI ((sumN v (3 * 3)) + 1))), (4, .int ((-1) + 1))]) rfl ?_
                          refine G.fn (fun j9 => nI ((tpl 3 c 1 g) j9)) 1 [(mo, .inr (15, [.ref e0, .ref c1, .ref c2, .ref c3, .ref c4, .ref c5, .ref q1, .int (nI 0), .int (nI 0), .int 0, .int (nI 3), .int 0])), (q1, aI k 9 (fun j9 => nI ((tpl 3 c 1 g) j9)))] rfl (fun j hj => by first | rfl | (exact congrArg nI (by simp only [ad, sb, tpl, nbr]; repeat' (first | omega | split)))) rfl ?_
                          refine G.eql (lv' := [(0, .ref mo), (1, .int (nI 3)), (2, .int (nI m)), (3, .int (nI (sumN (adv v c 1) (3 * 3)))), (4, .int (nI 0))]) ((congrArg (β := List (Nat × Value)) (fun z9 => [(0, .ref mo), (1, .int (nI 3)), (2, .int (nI m)), (3, .int z9), (4, .int ((-1) + 1))]) (show ((nI ((sumN v (3 * 3)) + 1)) : Int32) = (nI (sumN (adv v c 1) (3 * 3))) from by first | rfl | decide | (rw [sumN_adv1 _ _ _ _ (show c < (3 * 3) by omega)]))).trans (congrArg (β := List (Nat × Value)) (fun z9 => [(0, .ref mo), (1, .int (nI 3)), (2, .int (nI m)), (3, .int (nI (sumN (adv v c 1) (3 * 3)))), (4, .int z9)]) (show (((-1) + 1) : Int32) = (nI 0) from by first | rfl | decide | (rw [sumN_adv1 _ _ _ _ (show c < (3 * 3) by omega)])))) ?_
                          exact ih_75 0 (tpl 3 c 1 g) (adv v c 1) (by first | exact hW | exact went_step (by decide) hW (show c < (3 * 3) by omega) (by omega)) (by omega) (by first | exact fun j hj => absurd hj (Nat.not_lt_zero j) | exact fun j hj => (by rcases Nat.lt_or_ge j c with q | q; exact hq j q; rw [show j = c by omega]; exact k93)) (by first | omega | (rw [sumN_adv1 _ _ _ _ (show c < (3 * 3) by omega)]; omega))
                        · have k181 : c % 3 < 2 := by rcases Nat.lt_or_ge (c % 3) (2) with q | q; exact q; exact absurd (show nI (2) ≤ nI (c % 3) from nI_le q (by omega)) c_181
                          refine g_aload_n (pc := 184) C 0 rfl rfl dX11_picture_184 ?_
                          refine g_get (pc := 185) C (T := TX11) inX11 0 rfl rfl 6 (by decide) q_293 rfl rfl dX11_picture_185 ?_
                          refine g_iload (pc := 188) C 4 rfl dX11_picture_188 ?_
                          refine g_iconst (pc := 190) (v := 1) C (by decide) dX11_picture_190 ?_
                          refine g_iadd (pc := 191) C dX11_picture_191 ?_
                          refine G.eqs (st' := [.int (nI (c + 1)), .ref q1]) (congrArg (β := List Value) (fun z9 => [.int z9, .ref q1]) (show (((nI c) + 1) : Int32) = (nI (c + 1)) from nI_1 c)) ?_
                          refine g_dup2 (pc := 192) C rfl rfl dX11_picture_192 ?_
                          refine g_iald_n (pc := 193) C (j := (c + 1)) 1 rfl (by omega) (by first | decide | omega) rfl dX11_picture_193 ?_
                          refine g_iconst (pc := 194) (v := 1) C (by decide) dX11_picture_194 ?_
                          refine g_iadd (pc := 195) C dX11_picture_195 ?_
                          refine g_iast_n (pc := 196) C (j := (c + 1)) 1 [(mo, .inr (15, [.ref e0, .ref c1, .ref c2, .ref c3, .ref c4, .ref c5, .ref q1, .int (nI 0), .int (nI 0), .int 0, .int (nI 3), .int 0])), (q1, aI k 9 (upd (fun j9 => nI ((ad (sb g c 4) (c - 1) 1) j9)) (c + 1) (((fun j9 => nI ((ad (sb g c 4) (c - 1) 1) j9)) (c + 1)) + 1)))] rfl (by omega) (by first | decide | omega) rfl rfl dX11_picture_196 ?_
                          refine G.fn (fun j9 => nI ((ad (ad (sb g c 4) (c - 1) 1) (c + 1) 1) j9)) 1 [(mo, .inr (15, [.ref e0, .ref c1, .ref c2, .ref c3, .ref c4, .ref c5, .ref q1, .int (nI 0), .int (nI 0), .int 0, .int (nI 3), .int 0])), (q1, aI k 9 (fun j9 => nI ((ad (ad (sb g c 4) (c - 1) 1) (c + 1) 1) j9)))] rfl (fun j hj => by exact ad_step _ _ _ j) rfl ?_
                          refine g_iinc (pc := 197) (n := 1) (v := (nI ((sumN v (3 * 3)) + 1))) C 3 [(3, .int (nI ((sumN v (3 * 3)) + 1))), (0, .ref mo), (1, .int (nI 3)), (2, .int (nI m)), (4, .int (nI c))] rfl (nI_1 (sumN v (3 * 3))) dX11_picture_197 (by decide) rfl ?_
                          refine g_iconst (pc := 200) (v := (-1)) C (by decide) dX11_picture_200 ?_
                          refine g_istore (pc := 201) C [(4, .int (-1)), (3, .int (nI ((sumN v (3 * 3)) + 1))), (0, .ref mo), (1, .int (nI 3)), (2, .int (nI m))] dX11_picture_201 (by decide) rfl ?_
                          refine g_iinc (pc := 203) (n := 1) (v := ((-1) + 1)) C 0 [(4, .int ((-1) + 1)), (3, .int (nI ((sumN v (3 * 3)) + 1))), (0, .ref mo), (1, .int (nI 3)), (2, .int (nI m))] rfl rfl dX11_picture_203 (by decide) rfl ?_
                          refine g_goto (pc := 206) C 75 (by decide) dX11_picture_206 ?_
                          refine G.loc [2, 3, 4, 1, 0] (lv' := [(0, .ref mo), (1, .int (nI 3)), (2, .int (nI m)), (3, .int (nI ((sumN v (3 * 3)) + 1))), (4, .int ((-1) + 1))]) rfl ?_
                          refine G.fn (fun j9 => nI ((tpl 3 c 1 g) j9)) 1 [(mo, .inr (15, [.ref e0, .ref c1, .ref c2, .ref c3, .ref c4, .ref c5, .ref q1, .int (nI 0), .int (nI 0), .int 0, .int (nI 3), .int 0])), (q1, aI k 9 (fun j9 => nI ((tpl 3 c 1 g) j9)))] rfl (fun j hj => by first | rfl | (exact congrArg nI (by simp only [ad, sb, tpl, nbr]; repeat' (first | omega | split)))) rfl ?_
                          refine G.eql (lv' := [(0, .ref mo), (1, .int (nI 3)), (2, .int (nI m)), (3, .int (nI (sumN (adv v c 1) (3 * 3)))), (4, .int (nI 0))]) ((congrArg (β := List (Nat × Value)) (fun z9 => [(0, .ref mo), (1, .int (nI 3)), (2, .int (nI m)), (3, .int z9), (4, .int ((-1) + 1))]) (show ((nI ((sumN v (3 * 3)) + 1)) : Int32) = (nI (sumN (adv v c 1) (3 * 3))) from by first | rfl | decide | (rw [sumN_adv1 _ _ _ _ (show c < (3 * 3) by omega)]))).trans (congrArg (β := List (Nat × Value)) (fun z9 => [(0, .ref mo), (1, .int (nI 3)), (2, .int (nI m)), (3, .int (nI (sumN (adv v c 1) (3 * 3)))), (4, .int z9)]) (show (((-1) + 1) : Int32) = (nI 0) from by first | rfl | decide | (rw [sumN_adv1 _ _ _ _ (show c < (3 * 3) by omega)])))) ?_
                          exact ih_75 0 (tpl 3 c 1 g) (adv v c 1) (by first | exact hW | exact went_step (by decide) hW (show c < (3 * 3) by omega) (by omega)) (by omega) (by first | exact fun j hj => absurd hj (Nat.not_lt_zero j) | exact fun j hj => (by rcases Nat.lt_or_ge j c with q | q; exact hq j q; rw [show j = c by omega]; exact k93)) (by first | omega | (rw [sumN_adv1 _ _ _ _ (show c < (3 * 3) by omega)]; omega))
                    · have k138 : c + 3 < 9 := by rcases Nat.lt_or_ge (c + 3) (9) with q | q; exact q; exact absurd (show nI (9) ≤ nI (c + 3) from nI_le q (by omega)) c_138
                      refine g_aload_n (pc := 141) C 0 rfl rfl dX11_picture_141 ?_
                      refine g_get (pc := 142) C (T := TX11) inX11 0 rfl rfl 6 (by decide) q_293 rfl rfl dX11_picture_142 ?_
                      refine g_iload (pc := 145) C 4 rfl dX11_picture_145 ?_
                      refine g_iload_n (pc := 147) C 1 rfl rfl dX11_picture_147 ?_
                      refine g_iadd (pc := 148) C dX11_picture_148 ?_
                      refine G.eqs (st' := [.int (nI (c + 3)), .ref q1]) (congrArg (β := List Value) (fun z9 => [.int z9, .ref q1]) (show (((nI c) + (nI 3)) : Int32) = (nI (c + 3)) from nI_add c 3)) ?_
                      refine g_dup2 (pc := 149) C rfl rfl dX11_picture_149 ?_
                      refine g_iald_n (pc := 150) C (j := (c + 3)) 1 rfl (by omega) (by first | decide | omega) rfl dX11_picture_150 ?_
                      refine g_iconst (pc := 151) (v := 1) C (by decide) dX11_picture_151 ?_
                      refine g_iadd (pc := 152) C dX11_picture_152 ?_
                      refine g_iast_n (pc := 153) C (j := (c + 3)) 1 [(mo, .inr (15, [.ref e0, .ref c1, .ref c2, .ref c3, .ref c4, .ref c5, .ref q1, .int (nI 0), .int (nI 0), .int 0, .int (nI 3), .int 0])), (q1, aI k 9 (upd (fun j9 => nI ((sb g c 4) j9)) (c + 3) (((fun j9 => nI ((sb g c 4) j9)) (c + 3)) + 1)))] rfl (by omega) (by first | decide | omega) rfl rfl dX11_picture_153 ?_
                      refine G.fn (fun j9 => nI ((ad (sb g c 4) (c + 3) 1) j9)) 1 [(mo, .inr (15, [.ref e0, .ref c1, .ref c2, .ref c3, .ref c4, .ref c5, .ref q1, .int (nI 0), .int (nI 0), .int 0, .int (nI 3), .int 0])), (q1, aI k 9 (fun j9 => nI ((ad (sb g c 4) (c + 3) 1) j9)))] rfl (fun j hj => by exact ad_step _ _ _ j) rfl ?_
                      refine g_iload (pc := 154) C 4 rfl dX11_picture_154 ?_
                      refine g_iload_n (pc := 156) C 1 rfl rfl dX11_picture_156 ?_
                      refine g_irem (pc := 157) C (by first | assumption | decide) dX11_picture_157 ?_
                      refine G.eqs (st' := [.int (nI (c % 3))]) (congrArg (β := List Value) (fun z9 => [.int z9]) (show (((nI c) - (nI c) / (nI 3) * (nI 3)) : Int32) = (nI (c % 3)) from pk_rem (by omega) (by decide) (by decide))) ?_
                      refine g_if_le (pc := 158) C 174 (by decide) dX11_picture_158 (fun c_158 => ?_) (fun c_158 => ?_)
                      · have k158 : c % 3 = 0 := by rcases Nat.eq_zero_or_pos (c % 3) with q | q; exact q; exact absurd c_158 (nI_nle q (by omega))
                        refine g_iload (pc := 174) C 4 rfl dX11_picture_174 ?_
                        refine g_iload_n (pc := 176) C 1 rfl rfl dX11_picture_176 ?_
                        refine g_irem (pc := 177) C (by first | assumption | decide) dX11_picture_177 ?_
                        refine G.eqs (st' := [.int (nI (c % 3))]) (congrArg (β := List Value) (fun z9 => [.int z9]) (show (((nI c) - (nI c) / (nI 3) * (nI 3)) : Int32) = (nI (c % 3)) from pk_rem (by omega) (by decide) (by decide))) ?_
                        refine g_iload_n (pc := 178) C 1 rfl rfl dX11_picture_178 ?_
                        refine g_iconst (pc := 179) (v := 1) C (by decide) dX11_picture_179 ?_
                        refine g_isub (pc := 180) C dX11_picture_180 ?_
                        refine G.eqs (st' := [.int (nI 2), .int (nI (c % 3))]) (congrArg (β := List Value) (fun z9 => [.int z9, .int (nI (c % 3))]) (show (((nI 3) - 1) : Int32) = (nI 2) from by decide)) ?_
                        refine g_icmp_ge (pc := 181) C 197 (by decide) dX11_picture_181 (fun c_181 => ?_) (fun c_181 => ?_)
                        · have k181 : 2 ≤ c % 3 := by rcases Nat.lt_or_ge (c % 3) (2) with q | q; exact absurd (show nI (2) ≤ nI (c % 3) from c_181) (nI_ge q (by omega)); exact q
                          refine g_iinc (pc := 197) (n := 1) (v := (nI ((sumN v (3 * 3)) + 1))) C 3 [(3, .int (nI ((sumN v (3 * 3)) + 1))), (0, .ref mo), (1, .int (nI 3)), (2, .int (nI m)), (4, .int (nI c))] rfl (nI_1 (sumN v (3 * 3))) dX11_picture_197 (by decide) rfl ?_
                          refine g_iconst (pc := 200) (v := (-1)) C (by decide) dX11_picture_200 ?_
                          refine g_istore (pc := 201) C [(4, .int (-1)), (3, .int (nI ((sumN v (3 * 3)) + 1))), (0, .ref mo), (1, .int (nI 3)), (2, .int (nI m))] dX11_picture_201 (by decide) rfl ?_
                          refine g_iinc (pc := 203) (n := 1) (v := ((-1) + 1)) C 0 [(4, .int ((-1) + 1)), (3, .int (nI ((sumN v (3 * 3)) + 1))), (0, .ref mo), (1, .int (nI 3)), (2, .int (nI m))] rfl rfl dX11_picture_203 (by decide) rfl ?_
                          refine g_goto (pc := 206) C 75 (by decide) dX11_picture_206 ?_
                          refine G.loc [2, 3, 4, 1, 0] (lv' := [(0, .ref mo), (1, .int (nI 3)), (2, .int (nI m)), (3, .int (nI ((sumN v (3 * 3)) + 1))), (4, .int ((-1) + 1))]) rfl ?_
                          refine G.fn (fun j9 => nI ((tpl 3 c 1 g) j9)) 1 [(mo, .inr (15, [.ref e0, .ref c1, .ref c2, .ref c3, .ref c4, .ref c5, .ref q1, .int (nI 0), .int (nI 0), .int 0, .int (nI 3), .int 0])), (q1, aI k 9 (fun j9 => nI ((tpl 3 c 1 g) j9)))] rfl (fun j hj => by first | rfl | (exact congrArg nI (by simp only [ad, sb, tpl, nbr]; repeat' (first | omega | split)))) rfl ?_
                          refine G.eql (lv' := [(0, .ref mo), (1, .int (nI 3)), (2, .int (nI m)), (3, .int (nI (sumN (adv v c 1) (3 * 3)))), (4, .int (nI 0))]) ((congrArg (β := List (Nat × Value)) (fun z9 => [(0, .ref mo), (1, .int (nI 3)), (2, .int (nI m)), (3, .int z9), (4, .int ((-1) + 1))]) (show ((nI ((sumN v (3 * 3)) + 1)) : Int32) = (nI (sumN (adv v c 1) (3 * 3))) from by first | rfl | decide | (rw [sumN_adv1 _ _ _ _ (show c < (3 * 3) by omega)]))).trans (congrArg (β := List (Nat × Value)) (fun z9 => [(0, .ref mo), (1, .int (nI 3)), (2, .int (nI m)), (3, .int (nI (sumN (adv v c 1) (3 * 3)))), (4, .int z9)]) (show (((-1) + 1) : Int32) = (nI 0) from by first | rfl | decide | (rw [sumN_adv1 _ _ _ _ (show c < (3 * 3) by omega)])))) ?_
                          exact ih_75 0 (tpl 3 c 1 g) (adv v c 1) (by first | exact hW | exact went_step (by decide) hW (show c < (3 * 3) by omega) (by omega)) (by omega) (by first | exact fun j hj => absurd hj (Nat.not_lt_zero j) | exact fun j hj => (by rcases Nat.lt_or_ge j c with q | q; exact hq j q; rw [show j = c by omega]; exact k93)) (by first | omega | (rw [sumN_adv1 _ _ _ _ (show c < (3 * 3) by omega)]; omega))
                        · have k181 : c % 3 < 2 := by rcases Nat.lt_or_ge (c % 3) (2) with q | q; exact q; exact absurd (show nI (2) ≤ nI (c % 3) from nI_le q (by omega)) c_181
                          refine g_aload_n (pc := 184) C 0 rfl rfl dX11_picture_184 ?_
                          refine g_get (pc := 185) C (T := TX11) inX11 0 rfl rfl 6 (by decide) q_293 rfl rfl dX11_picture_185 ?_
                          refine g_iload (pc := 188) C 4 rfl dX11_picture_188 ?_
                          refine g_iconst (pc := 190) (v := 1) C (by decide) dX11_picture_190 ?_
                          refine g_iadd (pc := 191) C dX11_picture_191 ?_
                          refine G.eqs (st' := [.int (nI (c + 1)), .ref q1]) (congrArg (β := List Value) (fun z9 => [.int z9, .ref q1]) (show (((nI c) + 1) : Int32) = (nI (c + 1)) from nI_1 c)) ?_
                          refine g_dup2 (pc := 192) C rfl rfl dX11_picture_192 ?_
                          refine g_iald_n (pc := 193) C (j := (c + 1)) 1 rfl (by omega) (by first | decide | omega) rfl dX11_picture_193 ?_
                          refine g_iconst (pc := 194) (v := 1) C (by decide) dX11_picture_194 ?_
                          refine g_iadd (pc := 195) C dX11_picture_195 ?_
                          refine g_iast_n (pc := 196) C (j := (c + 1)) 1 [(mo, .inr (15, [.ref e0, .ref c1, .ref c2, .ref c3, .ref c4, .ref c5, .ref q1, .int (nI 0), .int (nI 0), .int 0, .int (nI 3), .int 0])), (q1, aI k 9 (upd (fun j9 => nI ((ad (sb g c 4) (c + 3) 1) j9)) (c + 1) (((fun j9 => nI ((ad (sb g c 4) (c + 3) 1) j9)) (c + 1)) + 1)))] rfl (by omega) (by first | decide | omega) rfl rfl dX11_picture_196 ?_
                          refine G.fn (fun j9 => nI ((ad (ad (sb g c 4) (c + 3) 1) (c + 1) 1) j9)) 1 [(mo, .inr (15, [.ref e0, .ref c1, .ref c2, .ref c3, .ref c4, .ref c5, .ref q1, .int (nI 0), .int (nI 0), .int 0, .int (nI 3), .int 0])), (q1, aI k 9 (fun j9 => nI ((ad (ad (sb g c 4) (c + 3) 1) (c + 1) 1) j9)))] rfl (fun j hj => by exact ad_step _ _ _ j) rfl ?_
                          refine g_iinc (pc := 197) (n := 1) (v := (nI ((sumN v (3 * 3)) + 1))) C 3 [(3, .int (nI ((sumN v (3 * 3)) + 1))), (0, .ref mo), (1, .int (nI 3)), (2, .int (nI m)), (4, .int (nI c))] rfl (nI_1 (sumN v (3 * 3))) dX11_picture_197 (by decide) rfl ?_
                          refine g_iconst (pc := 200) (v := (-1)) C (by decide) dX11_picture_200 ?_
                          refine g_istore (pc := 201) C [(4, .int (-1)), (3, .int (nI ((sumN v (3 * 3)) + 1))), (0, .ref mo), (1, .int (nI 3)), (2, .int (nI m))] dX11_picture_201 (by decide) rfl ?_
                          refine g_iinc (pc := 203) (n := 1) (v := ((-1) + 1)) C 0 [(4, .int ((-1) + 1)), (3, .int (nI ((sumN v (3 * 3)) + 1))), (0, .ref mo), (1, .int (nI 3)), (2, .int (nI m))] rfl rfl dX11_picture_203 (by decide) rfl ?_
                          refine g_goto (pc := 206) C 75 (by decide) dX11_picture_206 ?_
                          refine G.loc [2, 3, 4, 1, 0] (lv' := [(0, .ref mo), (1, .int (nI 3)), (2, .int (nI m)), (3, .int (nI ((sumN v (3 * 3)) + 1))), (4, .int ((-1) + 1))]) rfl ?_
                          refine G.fn (fun j9 => nI ((tpl 3 c 1 g) j9)) 1 [(mo, .inr (15, [.ref e0, .ref c1, .ref c2, .ref c3, .ref c4, .ref c5, .ref q1, .int (nI 0), .int (nI 0), .int 0, .int (nI 3), .int 0])), (q1, aI k 9 (fun j9 => nI ((tpl 3 c 1 g) j9)))] rfl (fun j hj => by first | rfl | (exact congrArg nI (by simp only [ad, sb, tpl, nbr]; repeat' (first | omega | split)))) rfl ?_
                          refine G.eql (lv' := [(0, .ref mo), (1, .int (nI 3)), (2, .int (nI m)), (3, .int (nI (sumN (adv v c 1) (3 * 3)))), (4, .int (nI 0))]) ((congrArg (β := List (Nat × Value)) (fun z9 => [(0, .ref mo), (1, .int (nI 3)), (2, .int (nI m)), (3, .int z9), (4, .int ((-1) + 1))]) (show ((nI ((sumN v (3 * 3)) + 1)) : Int32) = (nI (sumN (adv v c 1) (3 * 3))) from by first | rfl | decide | (rw [sumN_adv1 _ _ _ _ (show c < (3 * 3) by omega)]))).trans (congrArg (β := List (Nat × Value)) (fun z9 => [(0, .ref mo), (1, .int (nI 3)), (2, .int (nI m)), (3, .int (nI (sumN (adv v c 1) (3 * 3)))), (4, .int z9)]) (show (((-1) + 1) : Int32) = (nI 0) from by first | rfl | decide | (rw [sumN_adv1 _ _ _ _ (show c < (3 * 3) by omega)])))) ?_
                          exact ih_75 0 (tpl 3 c 1 g) (adv v c 1) (by first | exact hW | exact went_step (by decide) hW (show c < (3 * 3) by omega) (by omega)) (by omega) (by first | exact fun j hj => absurd hj (Nat.not_lt_zero j) | exact fun j hj => (by rcases Nat.lt_or_ge j c with q | q; exact hq j q; rw [show j = c by omega]; exact k93)) (by first | omega | (rw [sumN_adv1 _ _ _ _ (show c < (3 * 3) by omega)]; omega))
                      · have k158 : 0 < c % 3 := by rcases Nat.eq_zero_or_pos (c % 3) with q | q; rw [q] at c_158; exact absurd (show nI 0 ≤ 0 by decide) c_158; exact q
                        refine g_aload_n (pc := 161) C 0 rfl rfl dX11_picture_161 ?_
                        refine g_get (pc := 162) C (T := TX11) inX11 0 rfl rfl 6 (by decide) q_293 rfl rfl dX11_picture_162 ?_
                        refine g_iload (pc := 165) C 4 rfl dX11_picture_165 ?_
                        refine g_iconst (pc := 167) (v := 1) C (by decide) dX11_picture_167 ?_
                        refine g_isub (pc := 168) C dX11_picture_168 ?_
                        refine G.eqs (st' := [.int (nI (c - 1)), .ref q1]) (congrArg (β := List Value) (fun z9 => [.int z9, .ref q1]) (show (((nI c) - 1) : Int32) = (nI (c - 1)) from by rw [show (1 : Int32) = nI 1 from rfl]; exact pk_sub (by omega))) ?_
                        refine g_dup2 (pc := 169) C rfl rfl dX11_picture_169 ?_
                        refine g_iald_n (pc := 170) C (j := (c - 1)) 1 rfl (by omega) (by first | decide | omega) rfl dX11_picture_170 ?_
                        refine g_iconst (pc := 171) (v := 1) C (by decide) dX11_picture_171 ?_
                        refine g_iadd (pc := 172) C dX11_picture_172 ?_
                        refine g_iast_n (pc := 173) C (j := (c - 1)) 1 [(mo, .inr (15, [.ref e0, .ref c1, .ref c2, .ref c3, .ref c4, .ref c5, .ref q1, .int (nI 0), .int (nI 0), .int 0, .int (nI 3), .int 0])), (q1, aI k 9 (upd (fun j9 => nI ((ad (sb g c 4) (c + 3) 1) j9)) (c - 1) (((fun j9 => nI ((ad (sb g c 4) (c + 3) 1) j9)) (c - 1)) + 1)))] rfl (by omega) (by first | decide | omega) rfl rfl dX11_picture_173 ?_
                        refine G.fn (fun j9 => nI ((ad (ad (sb g c 4) (c + 3) 1) (c - 1) 1) j9)) 1 [(mo, .inr (15, [.ref e0, .ref c1, .ref c2, .ref c3, .ref c4, .ref c5, .ref q1, .int (nI 0), .int (nI 0), .int 0, .int (nI 3), .int 0])), (q1, aI k 9 (fun j9 => nI ((ad (ad (sb g c 4) (c + 3) 1) (c - 1) 1) j9)))] rfl (fun j hj => by exact ad_step _ _ _ j) rfl ?_
                        refine g_iload (pc := 174) C 4 rfl dX11_picture_174 ?_
                        refine g_iload_n (pc := 176) C 1 rfl rfl dX11_picture_176 ?_
                        refine g_irem (pc := 177) C (by first | assumption | decide) dX11_picture_177 ?_
                        refine G.eqs (st' := [.int (nI (c % 3))]) (congrArg (β := List Value) (fun z9 => [.int z9]) (show (((nI c) - (nI c) / (nI 3) * (nI 3)) : Int32) = (nI (c % 3)) from pk_rem (by omega) (by decide) (by decide))) ?_
                        refine g_iload_n (pc := 178) C 1 rfl rfl dX11_picture_178 ?_
                        refine g_iconst (pc := 179) (v := 1) C (by decide) dX11_picture_179 ?_
                        refine g_isub (pc := 180) C dX11_picture_180 ?_
                        refine G.eqs (st' := [.int (nI 2), .int (nI (c % 3))]) (congrArg (β := List Value) (fun z9 => [.int z9, .int (nI (c % 3))]) (show (((nI 3) - 1) : Int32) = (nI 2) from by decide)) ?_
                        refine g_icmp_ge (pc := 181) C 197 (by decide) dX11_picture_181 (fun c_181 => ?_) (fun c_181 => ?_)
                        · have k181 : 2 ≤ c % 3 := by rcases Nat.lt_or_ge (c % 3) (2) with q | q; exact absurd (show nI (2) ≤ nI (c % 3) from c_181) (nI_ge q (by omega)); exact q
                          refine g_iinc (pc := 197) (n := 1) (v := (nI ((sumN v (3 * 3)) + 1))) C 3 [(3, .int (nI ((sumN v (3 * 3)) + 1))), (0, .ref mo), (1, .int (nI 3)), (2, .int (nI m)), (4, .int (nI c))] rfl (nI_1 (sumN v (3 * 3))) dX11_picture_197 (by decide) rfl ?_
                          refine g_iconst (pc := 200) (v := (-1)) C (by decide) dX11_picture_200 ?_
                          refine g_istore (pc := 201) C [(4, .int (-1)), (3, .int (nI ((sumN v (3 * 3)) + 1))), (0, .ref mo), (1, .int (nI 3)), (2, .int (nI m))] dX11_picture_201 (by decide) rfl ?_
                          refine g_iinc (pc := 203) (n := 1) (v := ((-1) + 1)) C 0 [(4, .int ((-1) + 1)), (3, .int (nI ((sumN v (3 * 3)) + 1))), (0, .ref mo), (1, .int (nI 3)), (2, .int (nI m))] rfl rfl dX11_picture_203 (by decide) rfl ?_
                          refine g_goto (pc := 206) C 75 (by decide) dX11_picture_206 ?_
                          refine G.loc [2, 3, 4, 1, 0] (lv' := [(0, .ref mo), (1, .int (nI 3)), (2, .int (nI m)), (3, .int (nI ((sumN v (3 * 3)) + 1))), (4, .int ((-1) + 1))]) rfl ?_
                          refine G.fn (fun j9 => nI ((tpl 3 c 1 g) j9)) 1 [(mo, .inr (15, [.ref e0, .ref c1, .ref c2, .ref c3, .ref c4, .ref c5, .ref q1, .int (nI 0), .int (nI 0), .int 0, .int (nI 3), .int 0])), (q1, aI k 9 (fun j9 => nI ((tpl 3 c 1 g) j9)))] rfl (fun j hj => by first | rfl | (exact congrArg nI (by simp only [ad, sb, tpl, nbr]; repeat' (first | omega | split)))) rfl ?_
                          refine G.eql (lv' := [(0, .ref mo), (1, .int (nI 3)), (2, .int (nI m)), (3, .int (nI (sumN (adv v c 1) (3 * 3)))), (4, .int (nI 0))]) ((congrArg (β := List (Nat × Value)) (fun z9 => [(0, .ref mo), (1, .int (nI 3)), (2, .int (nI m)), (3, .int z9), (4, .int ((-1) + 1))]) (show ((nI ((sumN v (3 * 3)) + 1)) : Int32) = (nI (sumN (adv v c 1) (3 * 3))) from by first | rfl | decide | (rw [sumN_adv1 _ _ _ _ (show c < (3 * 3) by omega)]))).trans (congrArg (β := List (Nat × Value)) (fun z9 => [(0, .ref mo), (1, .int (nI 3)), (2, .int (nI m)), (3, .int (nI (sumN (adv v c 1) (3 * 3)))), (4, .int z9)]) (show (((-1) + 1) : Int32) = (nI 0) from by first | rfl | decide | (rw [sumN_adv1 _ _ _ _ (show c < (3 * 3) by omega)])))) ?_
                          exact ih_75 0 (tpl 3 c 1 g) (adv v c 1) (by first | exact hW | exact went_step (by decide) hW (show c < (3 * 3) by omega) (by omega)) (by omega) (by first | exact fun j hj => absurd hj (Nat.not_lt_zero j) | exact fun j hj => (by rcases Nat.lt_or_ge j c with q | q; exact hq j q; rw [show j = c by omega]; exact k93)) (by first | omega | (rw [sumN_adv1 _ _ _ _ (show c < (3 * 3) by omega)]; omega))
                        · have k181 : c % 3 < 2 := by rcases Nat.lt_or_ge (c % 3) (2) with q | q; exact q; exact absurd (show nI (2) ≤ nI (c % 3) from nI_le q (by omega)) c_181
                          refine g_aload_n (pc := 184) C 0 rfl rfl dX11_picture_184 ?_
                          refine g_get (pc := 185) C (T := TX11) inX11 0 rfl rfl 6 (by decide) q_293 rfl rfl dX11_picture_185 ?_
                          refine g_iload (pc := 188) C 4 rfl dX11_picture_188 ?_
                          refine g_iconst (pc := 190) (v := 1) C (by decide) dX11_picture_190 ?_
                          refine g_iadd (pc := 191) C dX11_picture_191 ?_
                          refine G.eqs (st' := [.int (nI (c + 1)), .ref q1]) (congrArg (β := List Value) (fun z9 => [.int z9, .ref q1]) (show (((nI c) + 1) : Int32) = (nI (c + 1)) from nI_1 c)) ?_
                          refine g_dup2 (pc := 192) C rfl rfl dX11_picture_192 ?_
                          refine g_iald_n (pc := 193) C (j := (c + 1)) 1 rfl (by omega) (by first | decide | omega) rfl dX11_picture_193 ?_
                          refine g_iconst (pc := 194) (v := 1) C (by decide) dX11_picture_194 ?_
                          refine g_iadd (pc := 195) C dX11_picture_195 ?_
                          refine g_iast_n (pc := 196) C (j := (c + 1)) 1 [(mo, .inr (15, [.ref e0, .ref c1, .ref c2, .ref c3, .ref c4, .ref c5, .ref q1, .int (nI 0), .int (nI 0), .int 0, .int (nI 3), .int 0])), (q1, aI k 9 (upd (fun j9 => nI ((ad (ad (sb g c 4) (c + 3) 1) (c - 1) 1) j9)) (c + 1) (((fun j9 => nI ((ad (ad (sb g c 4) (c + 3) 1) (c - 1) 1) j9)) (c + 1)) + 1)))] rfl (by omega) (by first | decide | omega) rfl rfl dX11_picture_196 ?_
                          refine G.fn (fun j9 => nI ((ad (ad (ad (sb g c 4) (c + 3) 1) (c - 1) 1) (c + 1) 1) j9)) 1 [(mo, .inr (15, [.ref e0, .ref c1, .ref c2, .ref c3, .ref c4, .ref c5, .ref q1, .int (nI 0), .int (nI 0), .int 0, .int (nI 3), .int 0])), (q1, aI k 9 (fun j9 => nI ((ad (ad (ad (sb g c 4) (c + 3) 1) (c - 1) 1) (c + 1) 1) j9)))] rfl (fun j hj => by exact ad_step _ _ _ j) rfl ?_
                          refine g_iinc (pc := 197) (n := 1) (v := (nI ((sumN v (3 * 3)) + 1))) C 3 [(3, .int (nI ((sumN v (3 * 3)) + 1))), (0, .ref mo), (1, .int (nI 3)), (2, .int (nI m)), (4, .int (nI c))] rfl (nI_1 (sumN v (3 * 3))) dX11_picture_197 (by decide) rfl ?_
                          refine g_iconst (pc := 200) (v := (-1)) C (by decide) dX11_picture_200 ?_
                          refine g_istore (pc := 201) C [(4, .int (-1)), (3, .int (nI ((sumN v (3 * 3)) + 1))), (0, .ref mo), (1, .int (nI 3)), (2, .int (nI m))] dX11_picture_201 (by decide) rfl ?_
                          refine g_iinc (pc := 203) (n := 1) (v := ((-1) + 1)) C 0 [(4, .int ((-1) + 1)), (3, .int (nI ((sumN v (3 * 3)) + 1))), (0, .ref mo), (1, .int (nI 3)), (2, .int (nI m))] rfl rfl dX11_picture_203 (by decide) rfl ?_
                          refine g_goto (pc := 206) C 75 (by decide) dX11_picture_206 ?_
                          refine G.loc [2, 3, 4, 1, 0] (lv' := [(0, .ref mo), (1, .int (nI 3)), (2, .int (nI m)), (3, .int (nI ((sumN v (3 * 3)) + 1))), (4, .int ((-1) + 1))]) rfl ?_
                          refine G.fn (fun j9 => nI ((tpl 3 c 1 g) j9)) 1 [(mo, .inr (15, [.ref e0, .ref c1, .ref c2, .ref c3, .ref c4, .ref c5, .ref q1, .int (nI 0), .int (nI 0), .int 0, .int (nI 3), .int 0])), (q1, aI k 9 (fun j9 => nI ((tpl 3 c 1 g) j9)))] rfl (fun j hj => by first | rfl | (exact congrArg nI (by simp only [ad, sb, tpl, nbr]; repeat' (first | omega | split)))) rfl ?_
                          refine G.eql (lv' := [(0, .ref mo), (1, .int (nI 3)), (2, .int (nI m)), (3, .int (nI (sumN (adv v c 1) (3 * 3)))), (4, .int (nI 0))]) ((congrArg (β := List (Nat × Value)) (fun z9 => [(0, .ref mo), (1, .int (nI 3)), (2, .int (nI m)), (3, .int z9), (4, .int ((-1) + 1))]) (show ((nI ((sumN v (3 * 3)) + 1)) : Int32) = (nI (sumN (adv v c 1) (3 * 3))) from by first | rfl | decide | (rw [sumN_adv1 _ _ _ _ (show c < (3 * 3) by omega)]))).trans (congrArg (β := List (Nat × Value)) (fun z9 => [(0, .ref mo), (1, .int (nI 3)), (2, .int (nI m)), (3, .int (nI (sumN (adv v c 1) (3 * 3)))), (4, .int z9)]) (show (((-1) + 1) : Int32) = (nI 0) from by first | rfl | decide | (rw [sumN_adv1 _ _ _ _ (show c < (3 * 3) by omega)])))) ?_
                          exact ih_75 0 (tpl 3 c 1 g) (adv v c 1) (by first | exact hW | exact went_step (by decide) hW (show c < (3 * 3) by omega) (by omega)) (by omega) (by first | exact fun j hj => absurd hj (Nat.not_lt_zero j) | exact fun j hj => (by rcases Nat.lt_or_ge j c with q | q; exact hq j q; rw [show j = c by omega]; exact k93)) (by first | omega | (rw [sumN_adv1 _ _ _ _ (show c < (3 * 3) by omega)]; omega))
                  · have k113 : 3 ≤ c := by rcases Nat.lt_or_ge (c) (3) with q | q; exact absurd (nI_lt q (by omega)) c_113; exact q
                    refine g_aload_n (pc := 116) C 0 rfl rfl dX11_picture_116 ?_
                    refine g_get (pc := 117) C (T := TX11) inX11 0 rfl rfl 6 (by decide) q_293 rfl rfl dX11_picture_117 ?_
                    refine g_iload (pc := 120) C 4 rfl dX11_picture_120 ?_
                    refine g_iload_n (pc := 122) C 1 rfl rfl dX11_picture_122 ?_
                    refine g_isub (pc := 123) C dX11_picture_123 ?_
                    refine G.eqs (st' := [.int (nI (c - 3)), .ref q1]) (congrArg (β := List Value) (fun z9 => [.int z9, .ref q1]) (show (((nI c) - (nI 3)) : Int32) = (nI (c - 3)) from pk_sub (by omega))) ?_
                    refine g_dup2 (pc := 124) C rfl rfl dX11_picture_124 ?_
                    refine g_iald_n (pc := 125) C (j := (c - 3)) 1 rfl (by omega) (by first | decide | omega) rfl dX11_picture_125 ?_
                    refine g_iconst (pc := 126) (v := 1) C (by decide) dX11_picture_126 ?_
                    refine g_iadd (pc := 127) C dX11_picture_127 ?_
                    refine g_iast_n (pc := 128) C (j := (c - 3)) 1 [(mo, .inr (15, [.ref e0, .ref c1, .ref c2, .ref c3, .ref c4, .ref c5, .ref q1, .int (nI 0), .int (nI 0), .int 0, .int (nI 3), .int 0])), (q1, aI k 9 (upd (fun j9 => nI ((sb g c 4) j9)) (c - 3) (((fun j9 => nI ((sb g c 4) j9)) (c - 3)) + 1)))] rfl (by omega) (by first | decide | omega) rfl rfl dX11_picture_128 ?_
                    refine G.fn (fun j9 => nI ((ad (sb g c 4) (c - 3) 1) j9)) 1 [(mo, .inr (15, [.ref e0, .ref c1, .ref c2, .ref c3, .ref c4, .ref c5, .ref q1, .int (nI 0), .int (nI 0), .int 0, .int (nI 3), .int 0])), (q1, aI k 9 (fun j9 => nI ((ad (sb g c 4) (c - 3) 1) j9)))] rfl (fun j hj => by exact ad_step _ _ _ j) rfl ?_
                    refine g_iload (pc := 129) C 4 rfl dX11_picture_129 ?_
                    refine g_iload_n (pc := 131) C 1 rfl rfl dX11_picture_131 ?_
                    refine g_iadd (pc := 132) C dX11_picture_132 ?_
                    refine G.eqs (st' := [.int (nI (c + 3))]) (congrArg (β := List Value) (fun z9 => [.int z9]) (show (((nI c) + (nI 3)) : Int32) = (nI (c + 3)) from nI_add c 3)) ?_
                    refine g_aload_n (pc := 133) C 0 rfl rfl dX11_picture_133 ?_
                    refine g_get (pc := 134) C (T := TX11) inX11 0 rfl rfl 6 (by decide) q_293 rfl rfl dX11_picture_134 ?_
                    refine g_alen (pc := 137) C 1 rfl (t0 := 0) rfl (v := (nI 9)) rfl dX11_picture_137 ?_
                    refine g_icmp_ge (pc := 138) C 154 (by decide) dX11_picture_138 (fun c_138 => ?_) (fun c_138 => ?_)
                    · have k138 : 9 ≤ c + 3 := by rcases Nat.lt_or_ge (c + 3) (9) with q | q; exact absurd (show nI (9) ≤ nI (c + 3) from c_138) (nI_ge q (by omega)); exact q
                      refine g_iload (pc := 154) C 4 rfl dX11_picture_154 ?_
                      refine g_iload_n (pc := 156) C 1 rfl rfl dX11_picture_156 ?_
                      refine g_irem (pc := 157) C (by first | assumption | decide) dX11_picture_157 ?_
                      refine G.eqs (st' := [.int (nI (c % 3))]) (congrArg (β := List Value) (fun z9 => [.int z9]) (show (((nI c) - (nI c) / (nI 3) * (nI 3)) : Int32) = (nI (c % 3)) from pk_rem (by omega) (by decide) (by decide))) ?_
                      refine g_if_le (pc := 158) C 174 (by decide) dX11_picture_158 (fun c_158 => ?_) (fun c_158 => ?_)
                      · have k158 : c % 3 = 0 := by rcases Nat.eq_zero_or_pos (c % 3) with q | q; exact q; exact absurd c_158 (nI_nle q (by omega))
                        refine g_iload (pc := 174) C 4 rfl dX11_picture_174 ?_
                        refine g_iload_n (pc := 176) C 1 rfl rfl dX11_picture_176 ?_
                        refine g_irem (pc := 177) C (by first | assumption | decide) dX11_picture_177 ?_
                        refine G.eqs (st' := [.int (nI (c % 3))]) (congrArg (β := List Value) (fun z9 => [.int z9]) (show (((nI c) - (nI c) / (nI 3) * (nI 3)) : Int32) = (nI (c % 3)) from pk_rem (by omega) (by decide) (by decide))) ?_
                        refine g_iload_n (pc := 178) C 1 rfl rfl dX11_picture_178 ?_
                        refine g_iconst (pc := 179) (v := 1) C (by decide) dX11_picture_179 ?_
                        refine g_isub (pc := 180) C dX11_picture_180 ?_
                        refine G.eqs (st' := [.int (nI 2), .int (nI (c % 3))]) (congrArg (β := List Value) (fun z9 => [.int z9, .int (nI (c % 3))]) (show (((nI 3) - 1) : Int32) = (nI 2) from by decide)) ?_
                        refine g_icmp_ge (pc := 181) C 197 (by decide) dX11_picture_181 (fun c_181 => ?_) (fun c_181 => ?_)
                        · have k181 : 2 ≤ c % 3 := by rcases Nat.lt_or_ge (c % 3) (2) with q | q; exact absurd (show nI (2) ≤ nI (c % 3) from c_181) (nI_ge q (by omega)); exact q
                          refine g_iinc (pc := 197) (n := 1) (v := (nI ((sumN v (3 * 3)) + 1))) C 3 [(3, .int (nI ((sumN v (3 * 3)) + 1))), (0, .ref mo), (1, .int (nI 3)), (2, .int (nI m)), (4, .int (nI c))] rfl (nI_1 (sumN v (3 * 3))) dX11_picture_197 (by decide) rfl ?_
                          refine g_iconst (pc := 200) (v := (-1)) C (by decide) dX11_picture_200 ?_
                          refine g_istore (pc := 201) C [(4, .int (-1)), (3, .int (nI ((sumN v (3 * 3)) + 1))), (0, .ref mo), (1, .int (nI 3)), (2, .int (nI m))] dX11_picture_201 (by decide) rfl ?_
                          refine g_iinc (pc := 203) (n := 1) (v := ((-1) + 1)) C 0 [(4, .int ((-1) + 1)), (3, .int (nI ((sumN v (3 * 3)) + 1))), (0, .ref mo), (1, .int (nI 3)), (2, .int (nI m))] rfl rfl dX11_picture_203 (by decide) rfl ?_
                          refine g_goto (pc := 206) C 75 (by decide) dX11_picture_206 ?_
                          refine G.loc [2, 3, 4, 1, 0] (lv' := [(0, .ref mo), (1, .int (nI 3)), (2, .int (nI m)), (3, .int (nI ((sumN v (3 * 3)) + 1))), (4, .int ((-1) + 1))]) rfl ?_
                          refine G.fn (fun j9 => nI ((tpl 3 c 1 g) j9)) 1 [(mo, .inr (15, [.ref e0, .ref c1, .ref c2, .ref c3, .ref c4, .ref c5, .ref q1, .int (nI 0), .int (nI 0), .int 0, .int (nI 3), .int 0])), (q1, aI k 9 (fun j9 => nI ((tpl 3 c 1 g) j9)))] rfl (fun j hj => by first | rfl | (exact congrArg nI (by simp only [ad, sb, tpl, nbr]; repeat' (first | omega | split)))) rfl ?_
                          refine G.eql (lv' := [(0, .ref mo), (1, .int (nI 3)), (2, .int (nI m)), (3, .int (nI (sumN (adv v c 1) (3 * 3)))), (4, .int (nI 0))]) ((congrArg (β := List (Nat × Value)) (fun z9 => [(0, .ref mo), (1, .int (nI 3)), (2, .int (nI m)), (3, .int z9), (4, .int ((-1) + 1))]) (show ((nI ((sumN v (3 * 3)) + 1)) : Int32) = (nI (sumN (adv v c 1) (3 * 3))) from by first | rfl | decide | (rw [sumN_adv1 _ _ _ _ (show c < (3 * 3) by omega)]))).trans (congrArg (β := List (Nat × Value)) (fun z9 => [(0, .ref mo), (1, .int (nI 3)), (2, .int (nI m)), (3, .int (nI (sumN (adv v c 1) (3 * 3)))), (4, .int z9)]) (show (((-1) + 1) : Int32) = (nI 0) from by first | rfl | decide | (rw [sumN_adv1 _ _ _ _ (show c < (3 * 3) by omega)])))) ?_
                          exact ih_75 0 (tpl 3 c 1 g) (adv v c 1) (by first | exact hW | exact went_step (by decide) hW (show c < (3 * 3) by omega) (by omega)) (by omega) (by first | exact fun j hj => absurd hj (Nat.not_lt_zero j) | exact fun j hj => (by rcases Nat.lt_or_ge j c with q | q; exact hq j q; rw [show j = c by omega]; exact k93)) (by first | omega | (rw [sumN_adv1 _ _ _ _ (show c < (3 * 3) by omega)]; omega))
                        · have k181 : c % 3 < 2 := by rcases Nat.lt_or_ge (c % 3) (2) with q | q; exact q; exact absurd (show nI (2) ≤ nI (c % 3) from nI_le q (by omega)) c_181
                          refine g_aload_n (pc := 184) C 0 rfl rfl dX11_picture_184 ?_
                          refine g_get (pc := 185) C (T := TX11) inX11 0 rfl rfl 6 (by decide) q_293 rfl rfl dX11_picture_185 ?_
                          refine g_iload (pc := 188) C 4 rfl dX11_picture_188 ?_
                          refine g_iconst (pc := 190) (v := 1) C (by decide) dX11_picture_190 ?_
                          refine g_iadd (pc := 191) C dX11_picture_191 ?_
                          refine G.eqs (st' := [.int (nI (c + 1)), .ref q1]) (congrArg (β := List Value) (fun z9 => [.int z9, .ref q1]) (show (((nI c) + 1) : Int32) = (nI (c + 1)) from nI_1 c)) ?_
                          refine g_dup2 (pc := 192) C rfl rfl dX11_picture_192 ?_
                          refine g_iald_n (pc := 193) C (j := (c + 1)) 1 rfl (by omega) (by first | decide | omega) rfl dX11_picture_193 ?_
                          refine g_iconst (pc := 194) (v := 1) C (by decide) dX11_picture_194 ?_
                          refine g_iadd (pc := 195) C dX11_picture_195 ?_
                          refine g_iast_n (pc := 196) C (j := (c + 1)) 1 [(mo, .inr (15, [.ref e0, .ref c1, .ref c2, .ref c3, .ref c4, .ref c5, .ref q1, .int (nI 0), .int (nI 0), .int 0, .int (nI 3), .int 0])), (q1, aI k 9 (upd (fun j9 => nI ((ad (sb g c 4) (c - 3) 1) j9)) (c + 1) (((fun j9 => nI ((ad (sb g c 4) (c - 3) 1) j9)) (c + 1)) + 1)))] rfl (by omega) (by first | decide | omega) rfl rfl dX11_picture_196 ?_
                          refine G.fn (fun j9 => nI ((ad (ad (sb g c 4) (c - 3) 1) (c + 1) 1) j9)) 1 [(mo, .inr (15, [.ref e0, .ref c1, .ref c2, .ref c3, .ref c4, .ref c5, .ref q1, .int (nI 0), .int (nI 0), .int 0, .int (nI 3), .int 0])), (q1, aI k 9 (fun j9 => nI ((ad (ad (sb g c 4) (c - 3) 1) (c + 1) 1) j9)))] rfl (fun j hj => by exact ad_step _ _ _ j) rfl ?_
                          refine g_iinc (pc := 197) (n := 1) (v := (nI ((sumN v (3 * 3)) + 1))) C 3 [(3, .int (nI ((sumN v (3 * 3)) + 1))), (0, .ref mo), (1, .int (nI 3)), (2, .int (nI m)), (4, .int (nI c))] rfl (nI_1 (sumN v (3 * 3))) dX11_picture_197 (by decide) rfl ?_
                          refine g_iconst (pc := 200) (v := (-1)) C (by decide) dX11_picture_200 ?_
                          refine g_istore (pc := 201) C [(4, .int (-1)), (3, .int (nI ((sumN v (3 * 3)) + 1))), (0, .ref mo), (1, .int (nI 3)), (2, .int (nI m))] dX11_picture_201 (by decide) rfl ?_
                          refine g_iinc (pc := 203) (n := 1) (v := ((-1) + 1)) C 0 [(4, .int ((-1) + 1)), (3, .int (nI ((sumN v (3 * 3)) + 1))), (0, .ref mo), (1, .int (nI 3)), (2, .int (nI m))] rfl rfl dX11_picture_203 (by decide) rfl ?_
                          refine g_goto (pc := 206) C 75 (by decide) dX11_picture_206 ?_
                          refine G.loc [2, 3, 4, 1, 0] (lv' := [(0, .ref mo), (1, .int (nI 3)), (2, .int (nI m)), (3, .int (nI ((sumN v (3 * 3)) + 1))), (4, .int ((-1) + 1))]) rfl ?_
                          refine G.fn (fun j9 => nI ((tpl 3 c 1 g) j9)) 1 [(mo, .inr (15, [.ref e0, .ref c1, .ref c2, .ref c3, .ref c4, .ref c5, .ref q1, .int (nI 0), .int (nI 0), .int 0, .int (nI 3), .int 0])), (q1, aI k 9 (fun j9 => nI ((tpl 3 c 1 g) j9)))] rfl (fun j hj => by first | rfl | (exact congrArg nI (by simp only [ad, sb, tpl, nbr]; repeat' (first | omega | split)))) rfl ?_
                          refine G.eql (lv' := [(0, .ref mo), (1, .int (nI 3)), (2, .int (nI m)), (3, .int (nI (sumN (adv v c 1) (3 * 3)))), (4, .int (nI 0))]) ((congrArg (β := List (Nat × Value)) (fun z9 => [(0, .ref mo), (1, .int (nI 3)), (2, .int (nI m)), (3, .int z9), (4, .int ((-1) + 1))]) (show ((nI ((sumN v (3 * 3)) + 1)) : Int32) = (nI (sumN (adv v c 1) (3 * 3))) from by first | rfl | decide | (rw [sumN_adv1 _ _ _ _ (show c < (3 * 3) by omega)]))).trans (congrArg (β := List (Nat × Value)) (fun z9 => [(0, .ref mo), (1, .int (nI 3)), (2, .int (nI m)), (3, .int (nI (sumN (adv v c 1) (3 * 3)))), (4, .int z9)]) (show (((-1) + 1) : Int32) = (nI 0) from by first | rfl | decide | (rw [sumN_adv1 _ _ _ _ (show c < (3 * 3) by omega)])))) ?_
                          exact ih_75 0 (tpl 3 c 1 g) (adv v c 1) (by first | exact hW | exact went_step (by decide) hW (show c < (3 * 3) by omega) (by omega)) (by omega) (by first | exact fun j hj => absurd hj (Nat.not_lt_zero j) | exact fun j hj => (by rcases Nat.lt_or_ge j c with q | q; exact hq j q; rw [show j = c by omega]; exact k93)) (by first | omega | (rw [sumN_adv1 _ _ _ _ (show c < (3 * 3) by omega)]; omega))
                      · have k158 : 0 < c % 3 := by rcases Nat.eq_zero_or_pos (c % 3) with q | q; rw [q] at c_158; exact absurd (show nI 0 ≤ 0 by decide) c_158; exact q
                        refine g_aload_n (pc := 161) C 0 rfl rfl dX11_picture_161 ?_
                        refine g_get (pc := 162) C (T := TX11) inX11 0 rfl rfl 6 (by decide) q_293 rfl rfl dX11_picture_162 ?_
                        refine g_iload (pc := 165) C 4 rfl dX11_picture_165 ?_
                        refine g_iconst (pc := 167) (v := 1) C (by decide) dX11_picture_167 ?_
                        refine g_isub (pc := 168) C dX11_picture_168 ?_
                        refine G.eqs (st' := [.int (nI (c - 1)), .ref q1]) (congrArg (β := List Value) (fun z9 => [.int z9, .ref q1]) (show (((nI c) - 1) : Int32) = (nI (c - 1)) from by rw [show (1 : Int32) = nI 1 from rfl]; exact pk_sub (by omega))) ?_
                        refine g_dup2 (pc := 169) C rfl rfl dX11_picture_169 ?_
                        refine g_iald_n (pc := 170) C (j := (c - 1)) 1 rfl (by omega) (by first | decide | omega) rfl dX11_picture_170 ?_
                        refine g_iconst (pc := 171) (v := 1) C (by decide) dX11_picture_171 ?_
                        refine g_iadd (pc := 172) C dX11_picture_172 ?_
                        refine g_iast_n (pc := 173) C (j := (c - 1)) 1 [(mo, .inr (15, [.ref e0, .ref c1, .ref c2, .ref c3, .ref c4, .ref c5, .ref q1, .int (nI 0), .int (nI 0), .int 0, .int (nI 3), .int 0])), (q1, aI k 9 (upd (fun j9 => nI ((ad (sb g c 4) (c - 3) 1) j9)) (c - 1) (((fun j9 => nI ((ad (sb g c 4) (c - 3) 1) j9)) (c - 1)) + 1)))] rfl (by omega) (by first | decide | omega) rfl rfl dX11_picture_173 ?_
                        refine G.fn (fun j9 => nI ((ad (ad (sb g c 4) (c - 3) 1) (c - 1) 1) j9)) 1 [(mo, .inr (15, [.ref e0, .ref c1, .ref c2, .ref c3, .ref c4, .ref c5, .ref q1, .int (nI 0), .int (nI 0), .int 0, .int (nI 3), .int 0])), (q1, aI k 9 (fun j9 => nI ((ad (ad (sb g c 4) (c - 3) 1) (c - 1) 1) j9)))] rfl (fun j hj => by exact ad_step _ _ _ j) rfl ?_
                        refine g_iload (pc := 174) C 4 rfl dX11_picture_174 ?_
                        refine g_iload_n (pc := 176) C 1 rfl rfl dX11_picture_176 ?_
                        refine g_irem (pc := 177) C (by first | assumption | decide) dX11_picture_177 ?_
                        refine G.eqs (st' := [.int (nI (c % 3))]) (congrArg (β := List Value) (fun z9 => [.int z9]) (show (((nI c) - (nI c) / (nI 3) * (nI 3)) : Int32) = (nI (c % 3)) from pk_rem (by omega) (by decide) (by decide))) ?_
                        refine g_iload_n (pc := 178) C 1 rfl rfl dX11_picture_178 ?_
                        refine g_iconst (pc := 179) (v := 1) C (by decide) dX11_picture_179 ?_
                        refine g_isub (pc := 180) C dX11_picture_180 ?_
                        refine G.eqs (st' := [.int (nI 2), .int (nI (c % 3))]) (congrArg (β := List Value) (fun z9 => [.int z9, .int (nI (c % 3))]) (show (((nI 3) - 1) : Int32) = (nI 2) from by decide)) ?_
                        refine g_icmp_ge (pc := 181) C 197 (by decide) dX11_picture_181 (fun c_181 => ?_) (fun c_181 => ?_)
                        · have k181 : 2 ≤ c % 3 := by rcases Nat.lt_or_ge (c % 3) (2) with q | q; exact absurd (show nI (2) ≤ nI (c % 3) from c_181) (nI_ge q (by omega)); exact q
                          refine g_iinc (pc := 197) (n := 1) (v := (nI ((sumN v (3 * 3)) + 1))) C 3 [(3, .int (nI ((sumN v (3 * 3)) + 1))), (0, .ref mo), (1, .int (nI 3)), (2, .int (nI m)), (4, .int (nI c))] rfl (nI_1 (sumN v (3 * 3))) dX11_picture_197 (by decide) rfl ?_
                          refine g_iconst (pc := 200) (v := (-1)) C (by decide) dX11_picture_200 ?_
                          refine g_istore (pc := 201) C [(4, .int (-1)), (3, .int (nI ((sumN v (3 * 3)) + 1))), (0, .ref mo), (1, .int (nI 3)), (2, .int (nI m))] dX11_picture_201 (by decide) rfl ?_
                          refine g_iinc (pc := 203) (n := 1) (v := ((-1) + 1)) C 0 [(4, .int ((-1) + 1)), (3, .int (nI ((sumN v (3 * 3)) + 1))), (0, .ref mo), (1, .int (nI 3)), (2, .int (nI m))] rfl rfl dX11_picture_203 (by decide) rfl ?_
                          refine g_goto (pc := 206) C 75 (by decide) dX11_picture_206 ?_
                          refine G.loc [2, 3, 4, 1, 0] (lv' := [(0, .ref mo), (1, .int (nI 3)), (2, .int (nI m)), (3, .int (nI ((sumN v (3 * 3)) + 1))), (4, .int ((-1) + 1))]) rfl ?_
                          refine G.fn (fun j9 => nI ((tpl 3 c 1 g) j9)) 1 [(mo, .inr (15, [.ref e0, .ref c1, .ref c2, .ref c3, .ref c4, .ref c5, .ref q1, .int (nI 0), .int (nI 0), .int 0, .int (nI 3), .int 0])), (q1, aI k 9 (fun j9 => nI ((tpl 3 c 1 g) j9)))] rfl (fun j hj => by first | rfl | (exact congrArg nI (by simp only [ad, sb, tpl, nbr]; repeat' (first | omega | split)))) rfl ?_
                          refine G.eql (lv' := [(0, .ref mo), (1, .int (nI 3)), (2, .int (nI m)), (3, .int (nI (sumN (adv v c 1) (3 * 3)))), (4, .int (nI 0))]) ((congrArg (β := List (Nat × Value)) (fun z9 => [(0, .ref mo), (1, .int (nI 3)), (2, .int (nI m)), (3, .int z9), (4, .int ((-1) + 1))]) (show ((nI ((sumN v (3 * 3)) + 1)) : Int32) = (nI (sumN (adv v c 1) (3 * 3))) from by first | rfl | decide | (rw [sumN_adv1 _ _ _ _ (show c < (3 * 3) by omega)]))).trans (congrArg (β := List (Nat × Value)) (fun z9 => [(0, .ref mo), (1, .int (nI 3)), (2, .int (nI m)), (3, .int (nI (sumN (adv v c 1) (3 * 3)))), (4, .int z9)]) (show (((-1) + 1) : Int32) = (nI 0) from by first | rfl | decide | (rw [sumN_adv1 _ _ _ _ (show c < (3 * 3) by omega)])))) ?_
                          exact ih_75 0 (tpl 3 c 1 g) (adv v c 1) (by first | exact hW | exact went_step (by decide) hW (show c < (3 * 3) by omega) (by omega)) (by omega) (by first | exact fun j hj => absurd hj (Nat.not_lt_zero j) | exact fun j hj => (by rcases Nat.lt_or_ge j c with q | q; exact hq j q; rw [show j = c by omega]; exact k93)) (by first | omega | (rw [sumN_adv1 _ _ _ _ (show c < (3 * 3) by omega)]; omega))
                        · have k181 : c % 3 < 2 := by rcases Nat.lt_or_ge (c % 3) (2) with q | q; exact q; exact absurd (show nI (2) ≤ nI (c % 3) from nI_le q (by omega)) c_181
                          refine g_aload_n (pc := 184) C 0 rfl rfl dX11_picture_184 ?_
                          refine g_get (pc := 185) C (T := TX11) inX11 0 rfl rfl 6 (by decide) q_293 rfl rfl dX11_picture_185 ?_
                          refine g_iload (pc := 188) C 4 rfl dX11_picture_188 ?_
                          refine g_iconst (pc := 190) (v := 1) C (by decide) dX11_picture_190 ?_
                          refine g_iadd (pc := 191) C dX11_picture_191 ?_
                          refine G.eqs (st' := [.int (nI (c + 1)), .ref q1]) (congrArg (β := List Value) (fun z9 => [.int z9, .ref q1]) (show (((nI c) + 1) : Int32) = (nI (c + 1)) from nI_1 c)) ?_
                          refine g_dup2 (pc := 192) C rfl rfl dX11_picture_192 ?_
                          refine g_iald_n (pc := 193) C (j := (c + 1)) 1 rfl (by omega) (by first | decide | omega) rfl dX11_picture_193 ?_
                          refine g_iconst (pc := 194) (v := 1) C (by decide) dX11_picture_194 ?_
                          refine g_iadd (pc := 195) C dX11_picture_195 ?_
                          refine g_iast_n (pc := 196) C (j := (c + 1)) 1 [(mo, .inr (15, [.ref e0, .ref c1, .ref c2, .ref c3, .ref c4, .ref c5, .ref q1, .int (nI 0), .int (nI 0), .int 0, .int (nI 3), .int 0])), (q1, aI k 9 (upd (fun j9 => nI ((ad (ad (sb g c 4) (c - 3) 1) (c - 1) 1) j9)) (c + 1) (((fun j9 => nI ((ad (ad (sb g c 4) (c - 3) 1) (c - 1) 1) j9)) (c + 1)) + 1)))] rfl (by omega) (by first | decide | omega) rfl rfl dX11_picture_196 ?_
                          refine G.fn (fun j9 => nI ((ad (ad (ad (sb g c 4) (c - 3) 1) (c - 1) 1) (c + 1) 1) j9)) 1 [(mo, .inr (15, [.ref e0, .ref c1, .ref c2, .ref c3, .ref c4, .ref c5, .ref q1, .int (nI 0), .int (nI 0), .int 0, .int (nI 3), .int 0])), (q1, aI k 9 (fun j9 => nI ((ad (ad (ad (sb g c 4) (c - 3) 1) (c - 1) 1) (c + 1) 1) j9)))] rfl (fun j hj => by exact ad_step _ _ _ j) rfl ?_
                          refine g_iinc (pc := 197) (n := 1) (v := (nI ((sumN v (3 * 3)) + 1))) C 3 [(3, .int (nI ((sumN v (3 * 3)) + 1))), (0, .ref mo), (1, .int (nI 3)), (2, .int (nI m)), (4, .int (nI c))] rfl (nI_1 (sumN v (3 * 3))) dX11_picture_197 (by decide) rfl ?_
                          refine g_iconst (pc := 200) (v := (-1)) C (by decide) dX11_picture_200 ?_
                          refine g_istore (pc := 201) C [(4, .int (-1)), (3, .int (nI ((sumN v (3 * 3)) + 1))), (0, .ref mo), (1, .int (nI 3)), (2, .int (nI m))] dX11_picture_201 (by decide) rfl ?_
                          refine g_iinc (pc := 203) (n := 1) (v := ((-1) + 1)) C 0 [(4, .int ((-1) + 1)), (3, .int (nI ((sumN v (3 * 3)) + 1))), (0, .ref mo), (1, .int (nI 3)), (2, .int (nI m))] rfl rfl dX11_picture_203 (by decide) rfl ?_
                          refine g_goto (pc := 206) C 75 (by decide) dX11_picture_206 ?_
                          refine G.loc [2, 3, 4, 1, 0] (lv' := [(0, .ref mo), (1, .int (nI 3)), (2, .int (nI m)), (3, .int (nI ((sumN v (3 * 3)) + 1))), (4, .int ((-1) + 1))]) rfl ?_
                          refine G.fn (fun j9 => nI ((tpl 3 c 1 g) j9)) 1 [(mo, .inr (15, [.ref e0, .ref c1, .ref c2, .ref c3, .ref c4, .ref c5, .ref q1, .int (nI 0), .int (nI 0), .int 0, .int (nI 3), .int 0])), (q1, aI k 9 (fun j9 => nI ((tpl 3 c 1 g) j9)))] rfl (fun j hj => by first | rfl | (exact congrArg nI (by simp only [ad, sb, tpl, nbr]; repeat' (first | omega | split)))) rfl ?_
                          refine G.eql (lv' := [(0, .ref mo), (1, .int (nI 3)), (2, .int (nI m)), (3, .int (nI (sumN (adv v c 1) (3 * 3)))), (4, .int (nI 0))]) ((congrArg (β := List (Nat × Value)) (fun z9 => [(0, .ref mo), (1, .int (nI 3)), (2, .int (nI m)), (3, .int z9), (4, .int ((-1) + 1))]) (show ((nI ((sumN v (3 * 3)) + 1)) : Int32) = (nI (sumN (adv v c 1) (3 * 3))) from by first | rfl | decide | (rw [sumN_adv1 _ _ _ _ (show c < (3 * 3) by omega)]))).trans (congrArg (β := List (Nat × Value)) (fun z9 => [(0, .ref mo), (1, .int (nI 3)), (2, .int (nI m)), (3, .int (nI (sumN (adv v c 1) (3 * 3)))), (4, .int z9)]) (show (((-1) + 1) : Int32) = (nI 0) from by first | rfl | decide | (rw [sumN_adv1 _ _ _ _ (show c < (3 * 3) by omega)])))) ?_
                          exact ih_75 0 (tpl 3 c 1 g) (adv v c 1) (by first | exact hW | exact went_step (by decide) hW (show c < (3 * 3) by omega) (by omega)) (by omega) (by first | exact fun j hj => absurd hj (Nat.not_lt_zero j) | exact fun j hj => (by rcases Nat.lt_or_ge j c with q | q; exact hq j q; rw [show j = c by omega]; exact k93)) (by first | omega | (rw [sumN_adv1 _ _ _ _ (show c < (3 * 3) by omega)]; omega))
                    · have k138 : c + 3 < 9 := by rcases Nat.lt_or_ge (c + 3) (9) with q | q; exact q; exact absurd (show nI (9) ≤ nI (c + 3) from nI_le q (by omega)) c_138
                      refine g_aload_n (pc := 141) C 0 rfl rfl dX11_picture_141 ?_
                      refine g_get (pc := 142) C (T := TX11) inX11 0 rfl rfl 6 (by decide) q_293 rfl rfl dX11_picture_142 ?_
                      refine g_iload (pc := 145) C 4 rfl dX11_picture_145 ?_
                      refine g_iload_n (pc := 147) C 1 rfl rfl dX11_picture_147 ?_
                      refine g_iadd (pc := 148) C dX11_picture_148 ?_
                      refine G.eqs (st' := [.int (nI (c + 3)), .ref q1]) (congrArg (β := List Value) (fun z9 => [.int z9, .ref q1]) (show (((nI c) + (nI 3)) : Int32) = (nI (c + 3)) from nI_add c 3)) ?_
                      refine g_dup2 (pc := 149) C rfl rfl dX11_picture_149 ?_
                      refine g_iald_n (pc := 150) C (j := (c + 3)) 1 rfl (by omega) (by first | decide | omega) rfl dX11_picture_150 ?_
                      refine g_iconst (pc := 151) (v := 1) C (by decide) dX11_picture_151 ?_
                      refine g_iadd (pc := 152) C dX11_picture_152 ?_
                      refine g_iast_n (pc := 153) C (j := (c + 3)) 1 [(mo, .inr (15, [.ref e0, .ref c1, .ref c2, .ref c3, .ref c4, .ref c5, .ref q1, .int (nI 0), .int (nI 0), .int 0, .int (nI 3), .int 0])), (q1, aI k 9 (upd (fun j9 => nI ((ad (sb g c 4) (c - 3) 1) j9)) (c + 3) (((fun j9 => nI ((ad (sb g c 4) (c - 3) 1) j9)) (c + 3)) + 1)))] rfl (by omega) (by first | decide | omega) rfl rfl dX11_picture_153 ?_
                      refine G.fn (fun j9 => nI ((ad (ad (sb g c 4) (c - 3) 1) (c + 3) 1) j9)) 1 [(mo, .inr (15, [.ref e0, .ref c1, .ref c2, .ref c3, .ref c4, .ref c5, .ref q1, .int (nI 0), .int (nI 0), .int 0, .int (nI 3), .int 0])), (q1, aI k 9 (fun j9 => nI ((ad (ad (sb g c 4) (c - 3) 1) (c + 3) 1) j9)))] rfl (fun j hj => by exact ad_step _ _ _ j) rfl ?_
                      refine g_iload (pc := 154) C 4 rfl dX11_picture_154 ?_
                      refine g_iload_n (pc := 156) C 1 rfl rfl dX11_picture_156 ?_
                      refine g_irem (pc := 157) C (by first | assumption | decide) dX11_picture_157 ?_
                      refine G.eqs (st' := [.int (nI (c % 3))]) (congrArg (β := List Value) (fun z9 => [.int z9]) (show (((nI c) - (nI c) / (nI 3) * (nI 3)) : Int32) = (nI (c % 3)) from pk_rem (by omega) (by decide) (by decide))) ?_
                      refine g_if_le (pc := 158) C 174 (by decide) dX11_picture_158 (fun c_158 => ?_) (fun c_158 => ?_)
                      · have k158 : c % 3 = 0 := by rcases Nat.eq_zero_or_pos (c % 3) with q | q; exact q; exact absurd c_158 (nI_nle q (by omega))
                        refine g_iload (pc := 174) C 4 rfl dX11_picture_174 ?_
                        refine g_iload_n (pc := 176) C 1 rfl rfl dX11_picture_176 ?_
                        refine g_irem (pc := 177) C (by first | assumption | decide) dX11_picture_177 ?_
                        refine G.eqs (st' := [.int (nI (c % 3))]) (congrArg (β := List Value) (fun z9 => [.int z9]) (show (((nI c) - (nI c) / (nI 3) * (nI 3)) : Int32) = (nI (c % 3)) from pk_rem (by omega) (by decide) (by decide))) ?_
                        refine g_iload_n (pc := 178) C 1 rfl rfl dX11_picture_178 ?_
                        refine g_iconst (pc := 179) (v := 1) C (by decide) dX11_picture_179 ?_
                        refine g_isub (pc := 180) C dX11_picture_180 ?_
                        refine G.eqs (st' := [.int (nI 2), .int (nI (c % 3))]) (congrArg (β := List Value) (fun z9 => [.int z9, .int (nI (c % 3))]) (show (((nI 3) - 1) : Int32) = (nI 2) from by decide)) ?_
                        refine g_icmp_ge (pc := 181) C 197 (by decide) dX11_picture_181 (fun c_181 => ?_) (fun c_181 => ?_)
                        · have k181 : 2 ≤ c % 3 := by rcases Nat.lt_or_ge (c % 3) (2) with q | q; exact absurd (show nI (2) ≤ nI (c % 3) from c_181) (nI_ge q (by omega)); exact q
                          refine g_iinc (pc := 197) (n := 1) (v := (nI ((sumN v (3 * 3)) + 1))) C 3 [(3, .int (nI ((sumN v (3 * 3)) + 1))), (0, .ref mo), (1, .int (nI 3)), (2, .int (nI m)), (4, .int (nI c))] rfl (nI_1 (sumN v (3 * 3))) dX11_picture_197 (by decide) rfl ?_
                          refine g_iconst (pc := 200) (v := (-1)) C (by decide) dX11_picture_200 ?_
                          refine g_istore (pc := 201) C [(4, .int (-1)), (3, .int (nI ((sumN v (3 * 3)) + 1))), (0, .ref mo), (1, .int (nI 3)), (2, .int (nI m))] dX11_picture_201 (by decide) rfl ?_
                          refine g_iinc (pc := 203) (n := 1) (v := ((-1) + 1)) C 0 [(4, .int ((-1) + 1)), (3, .int (nI ((sumN v (3 * 3)) + 1))), (0, .ref mo), (1, .int (nI 3)), (2, .int (nI m))] rfl rfl dX11_picture_203 (by decide) rfl ?_
                          refine g_goto (pc := 206) C 75 (by decide) dX11_picture_206 ?_
                          refine G.loc [2, 3, 4, 1, 0] (lv' := [(0, .ref mo), (1, .int (nI 3)), (2, .int (nI m)), (3, .int (nI ((sumN v (3 * 3)) + 1))), (4, .int ((-1) + 1))]) rfl ?_
                          refine G.fn (fun j9 => nI ((tpl 3 c 1 g) j9)) 1 [(mo, .inr (15, [.ref e0, .ref c1, .ref c2, .ref c3, .ref c4, .ref c5, .ref q1, .int (nI 0), .int (nI 0), .int 0, .int (nI 3), .int 0])), (q1, aI k 9 (fun j9 => nI ((tpl 3 c 1 g) j9)))] rfl (fun j hj => by first | rfl | (exact congrArg nI (by simp only [ad, sb, tpl, nbr]; repeat' (first | omega | split)))) rfl ?_
                          refine G.eql (lv' := [(0, .ref mo), (1, .int (nI 3)), (2, .int (nI m)), (3, .int (nI (sumN (adv v c 1) (3 * 3)))), (4, .int (nI 0))]) ((congrArg (β := List (Nat × Value)) (fun z9 => [(0, .ref mo), (1, .int (nI 3)), (2, .int (nI m)), (3, .int z9), (4, .int ((-1) + 1))]) (show ((nI ((sumN v (3 * 3)) + 1)) : Int32) = (nI (sumN (adv v c 1) (3 * 3))) from by first | rfl | decide | (rw [sumN_adv1 _ _ _ _ (show c < (3 * 3) by omega)]))).trans (congrArg (β := List (Nat × Value)) (fun z9 => [(0, .ref mo), (1, .int (nI 3)), (2, .int (nI m)), (3, .int (nI (sumN (adv v c 1) (3 * 3)))), (4, .int z9)]) (show (((-1) + 1) : Int32) = (nI 0) from by first | rfl | decide | (rw [sumN_adv1 _ _ _ _ (show c < (3 * 3) by omega)])))) ?_
                          exact ih_75 0 (tpl 3 c 1 g) (adv v c 1) (by first | exact hW | exact went_step (by decide) hW (show c < (3 * 3) by omega) (by omega)) (by omega) (by first | exact fun j hj => absurd hj (Nat.not_lt_zero j) | exact fun j hj => (by rcases Nat.lt_or_ge j c with q | q; exact hq j q; rw [show j = c by omega]; exact k93)) (by first | omega | (rw [sumN_adv1 _ _ _ _ (show c < (3 * 3) by omega)]; omega))
                        · have k181 : c % 3 < 2 := by rcases Nat.lt_or_ge (c % 3) (2) with q | q; exact q; exact absurd (show nI (2) ≤ nI (c % 3) from nI_le q (by omega)) c_181
                          refine g_aload_n (pc := 184) C 0 rfl rfl dX11_picture_184 ?_
                          refine g_get (pc := 185) C (T := TX11) inX11 0 rfl rfl 6 (by decide) q_293 rfl rfl dX11_picture_185 ?_
                          refine g_iload (pc := 188) C 4 rfl dX11_picture_188 ?_
                          refine g_iconst (pc := 190) (v := 1) C (by decide) dX11_picture_190 ?_
                          refine g_iadd (pc := 191) C dX11_picture_191 ?_
                          refine G.eqs (st' := [.int (nI (c + 1)), .ref q1]) (congrArg (β := List Value) (fun z9 => [.int z9, .ref q1]) (show (((nI c) + 1) : Int32) = (nI (c + 1)) from nI_1 c)) ?_
                          refine g_dup2 (pc := 192) C rfl rfl dX11_picture_192 ?_
                          refine g_iald_n (pc := 193) C (j := (c + 1)) 1 rfl (by omega) (by first | decide | omega) rfl dX11_picture_193 ?_
                          refine g_iconst (pc := 194) (v := 1) C (by decide) dX11_picture_194 ?_
                          refine g_iadd (pc := 195) C dX11_picture_195 ?_
                          refine g_iast_n (pc := 196) C (j := (c + 1)) 1 [(mo, .inr (15, [.ref e0, .ref c1, .ref c2, .ref c3, .ref c4, .ref c5, .ref q1, .int (nI 0), .int (nI 0), .int 0, .int (nI 3), .int 0])), (q1, aI k 9 (upd (fun j9 => nI ((ad (ad (sb g c 4) (c - 3) 1) (c + 3) 1) j9)) (c + 1) (((fun j9 => nI ((ad (ad (sb g c 4) (c - 3) 1) (c + 3) 1) j9)) (c + 1)) + 1)))] rfl (by omega) (by first | decide | omega) rfl rfl dX11_picture_196 ?_
                          refine G.fn (fun j9 => nI ((ad (ad (ad (sb g c 4) (c - 3) 1) (c + 3) 1) (c + 1) 1) j9)) 1 [(mo, .inr (15, [.ref e0, .ref c1, .ref c2, .ref c3, .ref c4, .ref c5, .ref q1, .int (nI 0), .int (nI 0), .int 0, .int (nI 3), .int 0])), (q1, aI k 9 (fun j9 => nI ((ad (ad (ad (sb g c 4) (c - 3) 1) (c + 3) 1) (c + 1) 1) j9)))] rfl (fun j hj => by exact ad_step _ _ _ j) rfl ?_
                          refine g_iinc (pc := 197) (n := 1) (v := (nI ((sumN v (3 * 3)) + 1))) C 3 [(3, .int (nI ((sumN v (3 * 3)) + 1))), (0, .ref mo), (1, .int (nI 3)), (2, .int (nI m)), (4, .int (nI c))] rfl (nI_1 (sumN v (3 * 3))) dX11_picture_197 (by decide) rfl ?_
                          refine g_iconst (pc := 200) (v := (-1)) C (by decide) dX11_picture_200 ?_
                          refine g_istore (pc := 201) C [(4, .int (-1)), (3, .int (nI ((sumN v (3 * 3)) + 1))), (0, .ref mo), (1, .int (nI 3)), (2, .int (nI m))] dX11_picture_201 (by decide) rfl ?_
                          refine g_iinc (pc := 203) (n := 1) (v := ((-1) + 1)) C 0 [(4, .int ((-1) + 1)), (3, .int (nI ((sumN v (3 * 3)) + 1))), (0, .ref mo), (1, .int (nI 3)), (2, .int (nI m))] rfl rfl dX11_picture_203 (by decide) rfl ?_
                          refine g_goto (pc := 206) C 75 (by decide) dX11_picture_206 ?_
                          refine G.loc [2, 3, 4, 1, 0] (lv' := [(0, .ref mo), (1, .int (nI 3)), (2, .int (nI m)), (3, .int (nI ((sumN v (3 * 3)) + 1))), (4, .int ((-1) + 1))]) rfl ?_
                          refine G.fn (fun j9 => nI ((tpl 3 c 1 g) j9)) 1 [(mo, .inr (15, [.ref e0, .ref c1, .ref c2, .ref c3, .ref c4, .ref c5, .ref q1, .int (nI 0), .int (nI 0), .int 0, .int (nI 3), .int 0])), (q1, aI k 9 (fun j9 => nI ((tpl 3 c 1 g) j9)))] rfl (fun j hj => by first | rfl | (exact congrArg nI (by simp only [ad, sb, tpl, nbr]; repeat' (first | omega | split)))) rfl ?_
                          refine G.eql (lv' := [(0, .ref mo), (1, .int (nI 3)), (2, .int (nI m)), (3, .int (nI (sumN (adv v c 1) (3 * 3)))), (4, .int (nI 0))]) ((congrArg (β := List (Nat × Value)) (fun z9 => [(0, .ref mo), (1, .int (nI 3)), (2, .int (nI m)), (3, .int z9), (4, .int ((-1) + 1))]) (show ((nI ((sumN v (3 * 3)) + 1)) : Int32) = (nI (sumN (adv v c 1) (3 * 3))) from by first | rfl | decide | (rw [sumN_adv1 _ _ _ _ (show c < (3 * 3) by omega)]))).trans (congrArg (β := List (Nat × Value)) (fun z9 => [(0, .ref mo), (1, .int (nI 3)), (2, .int (nI m)), (3, .int (nI (sumN (adv v c 1) (3 * 3)))), (4, .int z9)]) (show (((-1) + 1) : Int32) = (nI 0) from by first | rfl | decide | (rw [sumN_adv1 _ _ _ _ (show c < (3 * 3) by omega)])))) ?_
                          exact ih_75 0 (tpl 3 c 1 g) (adv v c 1) (by first | exact hW | exact went_step (by decide) hW (show c < (3 * 3) by omega) (by omega)) (by omega) (by first | exact fun j hj => absurd hj (Nat.not_lt_zero j) | exact fun j hj => (by rcases Nat.lt_or_ge j c with q | q; exact hq j q; rw [show j = c by omega]; exact k93)) (by first | omega | (rw [sumN_adv1 _ _ _ _ (show c < (3 * 3) by omega)]; omega))
                      · have k158 : 0 < c % 3 := by rcases Nat.eq_zero_or_pos (c % 3) with q | q; rw [q] at c_158; exact absurd (show nI 0 ≤ 0 by decide) c_158; exact q
                        refine g_aload_n (pc := 161) C 0 rfl rfl dX11_picture_161 ?_
                        refine g_get (pc := 162) C (T := TX11) inX11 0 rfl rfl 6 (by decide) q_293 rfl rfl dX11_picture_162 ?_
                        refine g_iload (pc := 165) C 4 rfl dX11_picture_165 ?_
                        refine g_iconst (pc := 167) (v := 1) C (by decide) dX11_picture_167 ?_
                        refine g_isub (pc := 168) C dX11_picture_168 ?_
                        refine G.eqs (st' := [.int (nI (c - 1)), .ref q1]) (congrArg (β := List Value) (fun z9 => [.int z9, .ref q1]) (show (((nI c) - 1) : Int32) = (nI (c - 1)) from by rw [show (1 : Int32) = nI 1 from rfl]; exact pk_sub (by omega))) ?_
                        refine g_dup2 (pc := 169) C rfl rfl dX11_picture_169 ?_
                        refine g_iald_n (pc := 170) C (j := (c - 1)) 1 rfl (by omega) (by first | decide | omega) rfl dX11_picture_170 ?_
                        refine g_iconst (pc := 171) (v := 1) C (by decide) dX11_picture_171 ?_
                        refine g_iadd (pc := 172) C dX11_picture_172 ?_
                        refine g_iast_n (pc := 173) C (j := (c - 1)) 1 [(mo, .inr (15, [.ref e0, .ref c1, .ref c2, .ref c3, .ref c4, .ref c5, .ref q1, .int (nI 0), .int (nI 0), .int 0, .int (nI 3), .int 0])), (q1, aI k 9 (upd (fun j9 => nI ((ad (ad (sb g c 4) (c - 3) 1) (c + 3) 1) j9)) (c - 1) (((fun j9 => nI ((ad (ad (sb g c 4) (c - 3) 1) (c + 3) 1) j9)) (c - 1)) + 1)))] rfl (by omega) (by first | decide | omega) rfl rfl dX11_picture_173 ?_
                        refine G.fn (fun j9 => nI ((ad (ad (ad (sb g c 4) (c - 3) 1) (c + 3) 1) (c - 1) 1) j9)) 1 [(mo, .inr (15, [.ref e0, .ref c1, .ref c2, .ref c3, .ref c4, .ref c5, .ref q1, .int (nI 0), .int (nI 0), .int 0, .int (nI 3), .int 0])), (q1, aI k 9 (fun j9 => nI ((ad (ad (ad (sb g c 4) (c - 3) 1) (c + 3) 1) (c - 1) 1) j9)))] rfl (fun j hj => by exact ad_step _ _ _ j) rfl ?_
                        refine g_iload (pc := 174) C 4 rfl dX11_picture_174 ?_
                        refine g_iload_n (pc := 176) C 1 rfl rfl dX11_picture_176 ?_
                        refine g_irem (pc := 177) C (by first | assumption | decide) dX11_picture_177 ?_
                        refine G.eqs (st' := [.int (nI (c % 3))]) (congrArg (β := List Value) (fun z9 => [.int z9]) (show (((nI c) - (nI c) / (nI 3) * (nI 3)) : Int32) = (nI (c % 3)) from pk_rem (by omega) (by decide) (by decide))) ?_
                        refine g_iload_n (pc := 178) C 1 rfl rfl dX11_picture_178 ?_
                        refine g_iconst (pc := 179) (v := 1) C (by decide) dX11_picture_179 ?_
                        refine g_isub (pc := 180) C dX11_picture_180 ?_
                        refine G.eqs (st' := [.int (nI 2), .int (nI (c % 3))]) (congrArg (β := List Value) (fun z9 => [.int z9, .int (nI (c % 3))]) (show (((nI 3) - 1) : Int32) = (nI 2) from by decide)) ?_
                        refine g_icmp_ge (pc := 181) C 197 (by decide) dX11_picture_181 (fun c_181 => ?_) (fun c_181 => ?_)
                        · have k181 : 2 ≤ c % 3 := by rcases Nat.lt_or_ge (c % 3) (2) with q | q; exact absurd (show nI (2) ≤ nI (c % 3) from c_181) (nI_ge q (by omega)); exact q
                          refine g_iinc (pc := 197) (n := 1) (v := (nI ((sumN v (3 * 3)) + 1))) C 3 [(3, .int (nI ((sumN v (3 * 3)) + 1))), (0, .ref mo), (1, .int (nI 3)), (2, .int (nI m)), (4, .int (nI c))] rfl (nI_1 (sumN v (3 * 3))) dX11_picture_197 (by decide) rfl ?_
                          refine g_iconst (pc := 200) (v := (-1)) C (by decide) dX11_picture_200 ?_
                          refine g_istore (pc := 201) C [(4, .int (-1)), (3, .int (nI ((sumN v (3 * 3)) + 1))), (0, .ref mo), (1, .int (nI 3)), (2, .int (nI m))] dX11_picture_201 (by decide) rfl ?_
                          refine g_iinc (pc := 203) (n := 1) (v := ((-1) + 1)) C 0 [(4, .int ((-1) + 1)), (3, .int (nI ((sumN v (3 * 3)) + 1))), (0, .ref mo), (1, .int (nI 3)), (2, .int (nI m))] rfl rfl dX11_picture_203 (by decide) rfl ?_
                          refine g_goto (pc := 206) C 75 (by decide) dX11_picture_206 ?_
                          refine G.loc [2, 3, 4, 1, 0] (lv' := [(0, .ref mo), (1, .int (nI 3)), (2, .int (nI m)), (3, .int (nI ((sumN v (3 * 3)) + 1))), (4, .int ((-1) + 1))]) rfl ?_
                          refine G.fn (fun j9 => nI ((tpl 3 c 1 g) j9)) 1 [(mo, .inr (15, [.ref e0, .ref c1, .ref c2, .ref c3, .ref c4, .ref c5, .ref q1, .int (nI 0), .int (nI 0), .int 0, .int (nI 3), .int 0])), (q1, aI k 9 (fun j9 => nI ((tpl 3 c 1 g) j9)))] rfl (fun j hj => by first | rfl | (exact congrArg nI (by simp only [ad, sb, tpl, nbr]; repeat' (first | omega | split)))) rfl ?_
                          refine G.eql (lv' := [(0, .ref mo), (1, .int (nI 3)), (2, .int (nI m)), (3, .int (nI (sumN (adv v c 1) (3 * 3)))), (4, .int (nI 0))]) ((congrArg (β := List (Nat × Value)) (fun z9 => [(0, .ref mo), (1, .int (nI 3)), (2, .int (nI m)), (3, .int z9), (4, .int ((-1) + 1))]) (show ((nI ((sumN v (3 * 3)) + 1)) : Int32) = (nI (sumN (adv v c 1) (3 * 3))) from by first | rfl | decide | (rw [sumN_adv1 _ _ _ _ (show c < (3 * 3) by omega)]))).trans (congrArg (β := List (Nat × Value)) (fun z9 => [(0, .ref mo), (1, .int (nI 3)), (2, .int (nI m)), (3, .int (nI (sumN (adv v c 1) (3 * 3)))), (4, .int z9)]) (show (((-1) + 1) : Int32) = (nI 0) from by first | rfl | decide | (rw [sumN_adv1 _ _ _ _ (show c < (3 * 3) by omega)])))) ?_
                          exact ih_75 0 (tpl 3 c 1 g) (adv v c 1) (by first | exact hW | exact went_step (by decide) hW (show c < (3 * 3) by omega) (by omega)) (by omega) (by first | exact fun j hj => absurd hj (Nat.not_lt_zero j) | exact fun j hj => (by rcases Nat.lt_or_ge j c with q | q; exact hq j q; rw [show j = c by omega]; exact k93)) (by first | omega | (rw [sumN_adv1 _ _ _ _ (show c < (3 * 3) by omega)]; omega))
                        · have k181 : c % 3 < 2 := by rcases Nat.lt_or_ge (c % 3) (2) with q | q; exact q; exact absurd (show nI (2) ≤ nI (c % 3) from nI_le q (by omega)) c_181
                          refine g_aload_n (pc := 184) C 0 rfl rfl dX11_picture_184 ?_
                          refine g_get (pc := 185) C (T := TX11) inX11 0 rfl rfl 6 (by decide) q_293 rfl rfl dX11_picture_185 ?_
                          refine g_iload (pc := 188) C 4 rfl dX11_picture_188 ?_
                          refine g_iconst (pc := 190) (v := 1) C (by decide) dX11_picture_190 ?_
                          refine g_iadd (pc := 191) C dX11_picture_191 ?_
                          refine G.eqs (st' := [.int (nI (c + 1)), .ref q1]) (congrArg (β := List Value) (fun z9 => [.int z9, .ref q1]) (show (((nI c) + 1) : Int32) = (nI (c + 1)) from nI_1 c)) ?_
                          refine g_dup2 (pc := 192) C rfl rfl dX11_picture_192 ?_
                          refine g_iald_n (pc := 193) C (j := (c + 1)) 1 rfl (by omega) (by first | decide | omega) rfl dX11_picture_193 ?_
                          refine g_iconst (pc := 194) (v := 1) C (by decide) dX11_picture_194 ?_
                          refine g_iadd (pc := 195) C dX11_picture_195 ?_
                          refine g_iast_n (pc := 196) C (j := (c + 1)) 1 [(mo, .inr (15, [.ref e0, .ref c1, .ref c2, .ref c3, .ref c4, .ref c5, .ref q1, .int (nI 0), .int (nI 0), .int 0, .int (nI 3), .int 0])), (q1, aI k 9 (upd (fun j9 => nI ((ad (ad (ad (sb g c 4) (c - 3) 1) (c + 3) 1) (c - 1) 1) j9)) (c + 1) (((fun j9 => nI ((ad (ad (ad (sb g c 4) (c - 3) 1) (c + 3) 1) (c - 1) 1) j9)) (c + 1)) + 1)))] rfl (by omega) (by first | decide | omega) rfl rfl dX11_picture_196 ?_
                          refine G.fn (fun j9 => nI ((ad (ad (ad (ad (sb g c 4) (c - 3) 1) (c + 3) 1) (c - 1) 1) (c + 1) 1) j9)) 1 [(mo, .inr (15, [.ref e0, .ref c1, .ref c2, .ref c3, .ref c4, .ref c5, .ref q1, .int (nI 0), .int (nI 0), .int 0, .int (nI 3), .int 0])), (q1, aI k 9 (fun j9 => nI ((ad (ad (ad (ad (sb g c 4) (c - 3) 1) (c + 3) 1) (c - 1) 1) (c + 1) 1) j9)))] rfl (fun j hj => by exact ad_step _ _ _ j) rfl ?_
                          refine g_iinc (pc := 197) (n := 1) (v := (nI ((sumN v (3 * 3)) + 1))) C 3 [(3, .int (nI ((sumN v (3 * 3)) + 1))), (0, .ref mo), (1, .int (nI 3)), (2, .int (nI m)), (4, .int (nI c))] rfl (nI_1 (sumN v (3 * 3))) dX11_picture_197 (by decide) rfl ?_
                          refine g_iconst (pc := 200) (v := (-1)) C (by decide) dX11_picture_200 ?_
                          refine g_istore (pc := 201) C [(4, .int (-1)), (3, .int (nI ((sumN v (3 * 3)) + 1))), (0, .ref mo), (1, .int (nI 3)), (2, .int (nI m))] dX11_picture_201 (by decide) rfl ?_
                          refine g_iinc (pc := 203) (n := 1) (v := ((-1) + 1)) C 0 [(4, .int ((-1) + 1)), (3, .int (nI ((sumN v (3 * 3)) + 1))), (0, .ref mo), (1, .int (nI 3)), (2, .int (nI m))] rfl rfl dX11_picture_203 (by decide) rfl ?_
                          refine g_goto (pc := 206) C 75 (by decide) dX11_picture_206 ?_
                          refine G.loc [2, 3, 4, 1, 0] (lv' := [(0, .ref mo), (1, .int (nI 3)), (2, .int (nI m)), (3, .int (nI ((sumN v (3 * 3)) + 1))), (4, .int ((-1) + 1))]) rfl ?_
                          refine G.fn (fun j9 => nI ((tpl 3 c 1 g) j9)) 1 [(mo, .inr (15, [.ref e0, .ref c1, .ref c2, .ref c3, .ref c4, .ref c5, .ref q1, .int (nI 0), .int (nI 0), .int 0, .int (nI 3), .int 0])), (q1, aI k 9 (fun j9 => nI ((tpl 3 c 1 g) j9)))] rfl (fun j hj => by first | rfl | (exact congrArg nI (by simp only [ad, sb, tpl, nbr]; repeat' (first | omega | split)))) rfl ?_
                          refine G.eql (lv' := [(0, .ref mo), (1, .int (nI 3)), (2, .int (nI m)), (3, .int (nI (sumN (adv v c 1) (3 * 3)))), (4, .int (nI 0))]) ((congrArg (β := List (Nat × Value)) (fun z9 => [(0, .ref mo), (1, .int (nI 3)), (2, .int (nI m)), (3, .int z9), (4, .int ((-1) + 1))]) (show ((nI ((sumN v (3 * 3)) + 1)) : Int32) = (nI (sumN (adv v c 1) (3 * 3))) from by first | rfl | decide | (rw [sumN_adv1 _ _ _ _ (show c < (3 * 3) by omega)]))).trans (congrArg (β := List (Nat × Value)) (fun z9 => [(0, .ref mo), (1, .int (nI 3)), (2, .int (nI m)), (3, .int (nI (sumN (adv v c 1) (3 * 3)))), (4, .int z9)]) (show (((-1) + 1) : Int32) = (nI 0) from by first | rfl | decide | (rw [sumN_adv1 _ _ _ _ (show c < (3 * 3) by omega)])))) ?_
                          exact ih_75 0 (tpl 3 c 1 g) (adv v c 1) (by first | exact hW | exact went_step (by decide) hW (show c < (3 * 3) by omega) (by omega)) (by omega) (by first | exact fun j hj => absurd hj (Nat.not_lt_zero j) | exact fun j hj => (by rcases Nat.lt_or_ge j c with q | q; exact hq j q; rw [show j = c by omega]; exact k93)) (by first | omega | (rw [sumN_adv1 _ _ _ _ (show c < (3 * 3) by omega)]; omega))
                · have k93 : g c < 4 := by rcases Nat.lt_or_ge (g c) (4) with q | q; exact q; exact absurd (show nI (4) ≤ nI (g c) from nI_le q (by omega)) c_93
                  refine g_goto (pc := 96) C 203 (by decide) dX11_picture_96 ?_
                  refine g_iinc (pc := 203) (n := 1) (v := (nI (c + 1))) C 4 [(4, .int (nI (c + 1))), (0, .ref mo), (1, .int (nI 3)), (2, .int (nI m)), (3, .int (nI (sumN v (3 * 3))))] rfl (nI_1 c) dX11_picture_203 (by decide) rfl ?_
                  refine g_goto (pc := 206) C 75 (by decide) dX11_picture_206 ?_
                  refine G.loc [1, 2, 3, 4, 0] (lv' := [(0, .ref mo), (1, .int (nI 3)), (2, .int (nI m)), (3, .int (nI (sumN v (3 * 3)))), (4, .int (nI (c + 1)))]) rfl ?_
                  exact ih_75 (c + 1) g v (by first | exact hW | exact went_step (by decide) hW (show c < (3 * 3) by omega) (by omega)) (by omega) (by first | exact fun j hj => absurd hj (Nat.not_lt_zero j) | exact fun j hj => (by rcases Nat.lt_or_ge j c with q | q; exact hq j q; rw [show j = c by omega]; exact k93)) (by first | omega | (rw [sumN_adv1 _ _ _ _ (show c < (3 * 3) by omega)]; omega))
          refine G.loc [2, 3, 4, 1, 0] (lv' := [(0, .ref mo), (1, .int (nI 3)), (2, .int (nI m)), (3, .int 0), (4, .int 0)]) rfl ?_
          refine G.eql (lv' := [(0, .ref mo), (1, .int (nI 3)), (2, .int (nI m)), (3, .int (nI (sumN (fun _ => 0) (3 * 3)))), (4, .int (nI 0))]) ((congrArg (β := List (Nat × Value)) (fun z9 => [(0, .ref mo), (1, .int (nI 3)), (2, .int (nI m)), (3, .int z9), (4, .int 0)]) (show (0 : Int32) = (nI (sumN (fun _ => 0) (3 * 3))) from by first | rfl | exact nI_0.symm | (rw [sumN_0]; exact nI_0.symm))).trans (congrArg (β := List (Nat × Value)) (fun z9 => [(0, .ref mo), (1, .int (nI 3)), (2, .int (nI m)), (3, .int (nI (sumN (fun _ => 0) (3 * 3)))), (4, .int z9)]) (show (0 : Int32) = (nI 0) from by first | rfl | exact nI_0.symm | (rw [sumN_0]; exact nI_0.symm)))) ?_
          exact key_75 ((327 - sumN (fun _ => 0) (3 * 3)) * 10 + (9 - 0) + 1) 0 (fm 3 m) (fun _ => 0) (went_0 3 _) (by omega) (fun j hj => absurd hj (Nat.not_lt_zero j)) (Nat.lt_succ_self _)
        · exact absurd c_40 (by decide)
      · exact absurd c_25 (by decide)
set_option maxRecDepth 100000 in
set_option maxHeartbeats 4000000 in
theorem c_X11_picture_s5 {l : Launch} {D : va_G} {k : Nat → ClassId} (mo : Nat) (e0 : Nat) (c1 : Nat) (c2 : Nat) (c3 : Nat) (c4 : Nat) (c5 : Nat) (th : Int32) (m : Nat) (hmm : m ≤ 300) : CM l D k yX11_picture cX11_picture 5 (some .int)  1 22 [.ref mo, .int (nI 5), .int (nI m)] [(mo, .inr (15, [.ref e0, .ref c1, .ref c2, .ref c3, .ref c4, .ref c5, .null, .int (nI 0), .int (nI 0), .int 0, .int 0, .int th]))] (fun rv9 w9 => rv9 = (some (.int (nI (picN 5 (fm 5 m))))) ∧ ∃ (qq : Nat) (gg : Nat → Int32), w9 = [(mo, .inr (15, [.ref e0, .ref c1, .ref c2, .ref c3, .ref c4, .ref c5, .ref qq, .int (nI 0), .int (nI 0), .int 0, .int (nI 5), .int 0])), (qq, aI k 25 gg)]) 1 25 1 := by
  refine CM.of (lv0 := [(0, .ref mo), (1, .int (nI 5)), (2, .int (nI m))]) (by decide +kernel) (Nat.le_of_ble_eq_true rfl) rfl ?_
  intro p9 e9 s9 m9 bl9 me9 co9 C hr hlk hin had
  refine g_aload_n (pc := 0) C 0 rfl rfl dX11_picture_0 ?_
  refine g_iload_n (pc := 1) C 1 rfl rfl dX11_picture_1 ?_
  refine g_iconst (pc := 2) (v := 3) C (by decide) dX11_picture_2 ?_
  refine g_bipush (pc := 3) (v := 9) C (by decide) dX11_picture_3 ?_
  refine g_callS (pc := 5) (cells := 0) (slots := 0) (g := 0) (As := [.int (nI 5), .int 3, .int 9]) (st := [.ref mo]) (b := 0) C (nA := 3) rfl (c_X11_in (nI 5) 3 9 ) q_266 q_267 q_265 q_264 (by decide +kernel) dX11_picture_5 ⟨Nat.le_of_ble_eq_true rfl, Nat.le_of_ble_eq_true rfl⟩ [] [0] rfl (wr := [(mo, .inr (15, [.ref e0, .ref c1, .ref c2, .ref c3, .ref c4, .ref c5, .null, .int (nI 0), .int (nI 0), .int 0, .int 0, .int th]))]) rfl (by decide) (by decide) (by decide) (Nat.le_of_ble_eq_true rfl) ⟨Nat.le_of_ble_eq_true rfl, Nat.le_of_ble_eq_true rfl⟩ (fun rv w1 h1 => ?_)
  obtain ⟨rfl, rfl⟩ := h1
  refine G.aft [0] (ws' := [(mo, .inr (15, [.ref e0, .ref c1, .ref c2, .ref c3, .ref c4, .ref c5, .null, .int (nI 0), .int (nI 0), .int 0, .int 0, .int th]))]) (st' := [.int (bI (inR (nI 5) 3 9)), .ref mo]) (cells' := 0) (slots' := 0) (g' := 0) (by decide) rfl rfl rfl rfl rfl ?_
  refine G.eqs (st' := [.int 1, .ref mo]) (congrArg (β := List Value) (fun z9 => [.int z9, .ref mo]) (show ((bI (inR (nI 5) 3 9)) : Int32) = 1 from by decide)) ?_
  refine g_if_eq (pc := 8) C 28 (by decide) dX11_picture_8 (fun c_8 => ?_) (fun c_8 => ?_)
  · exact absurd c_8 (by decide)
  · refine g_iload_n (pc := 11) C 1 rfl rfl dX11_picture_11 ?_
    refine g_iconst (pc := 12) (v := 2) C (by decide) dX11_picture_12 ?_
    refine g_irem (pc := 13) C (by first | assumption | decide) dX11_picture_13 ?_
    refine G.eqs (st' := [.int 1, .ref mo]) (congrArg (β := List Value) (fun z9 => [.int z9, .ref mo]) (show (((nI 5) - (nI 5) / 2 * 2) : Int32) = 1 from by decide)) ?_
    refine g_if_eq (pc := 14) C 28 (by decide) dX11_picture_14 (fun c_14 => ?_) (fun c_14 => ?_)
    · exact absurd c_14 (by decide)
    · refine g_iload_n (pc := 17) C 2 rfl rfl dX11_picture_17 ?_
      refine g_iconst (pc := 18) (v := 0) C (by decide) dX11_picture_18 ?_
      refine g_sipush (pc := 19) (v := 300) C (by decide) dX11_picture_19 ?_
      refine g_callS (pc := 22) (cells := 0) (slots := 0) (g := 0) (As := [.int (nI m), .int 0, .int 300]) (st := [.ref mo]) (b := 0) C (nA := 3) rfl (c_X11_in (nI m) 0 300 ) q_266 q_267 q_265 q_264 (by decide +kernel) dX11_picture_22 ⟨Nat.le_of_ble_eq_true rfl, Nat.le_of_ble_eq_true rfl⟩ [] [0] rfl (wr := [(mo, .inr (15, [.ref e0, .ref c1, .ref c2, .ref c3, .ref c4, .ref c5, .null, .int (nI 0), .int (nI 0), .int 0, .int 0, .int th]))]) rfl (by decide) (by decide) (by decide) (Nat.le_of_ble_eq_true rfl) ⟨Nat.le_of_ble_eq_true rfl, Nat.le_of_ble_eq_true rfl⟩ (fun rv w1 h1 => ?_)
      obtain ⟨rfl, rfl⟩ := h1
      refine G.aft [0] (ws' := [(mo, .inr (15, [.ref e0, .ref c1, .ref c2, .ref c3, .ref c4, .ref c5, .null, .int (nI 0), .int (nI 0), .int 0, .int 0, .int th]))]) (st' := [.int (bI (inR (nI m) 0 300)), .ref mo]) (cells' := 0) (slots' := 0) (g' := 0) (by decide) rfl rfl rfl rfl rfl ?_
      refine G.eqs (st' := [.int 1, .ref mo]) (congrArg (β := List Value) (fun z9 => [.int z9, .ref mo]) (show ((bI (inR (nI m) 0 300)) : Int32) = 1 from by rw [inR_m hmm]; rfl)) ?_
      refine g_if_ne (pc := 25) C 32 (by decide) dX11_picture_25 (fun c_25 => ?_) (fun c_25 => ?_)
      · refine g_iconst (pc := 32) (v := 0) C (by decide) dX11_picture_32 ?_
        refine g_put (pc := 33) C (T := TX11) inX11 0 rfl rfl 11 (by decide) q_262 rfl tyX11 tyX11_ok nmX11 rfl [(mo, .inr (15, [.ref e0, .ref c1, .ref c2, .ref c3, .ref c4, .ref c5, .null, .int (nI 0), .int (nI 0), .int 0, .int 0, .int 0]))] (tyX11_ok 11 (by decide)) rfl (by rfl) (Nat.le_of_ble_eq_true rfl) rfl dX11_picture_33 ?_
        refine g_aload_n (pc := 36) C 0 rfl rfl dX11_picture_36 ?_
        refine g_get (pc := 37) C (T := TX11) inX11 0 rfl rfl 11 (by decide) q_262 rfl rfl dX11_picture_37 ?_
        refine g_if_le (pc := 40) C 45 (by decide) dX11_picture_40 (fun c_40 => ?_) (fun c_40 => ?_)
        · refine g_aload_n (pc := 45) C 0 rfl rfl dX11_picture_45 ?_
          refine g_iload_n (pc := 46) C 1 rfl rfl dX11_picture_46 ?_
          refine g_put (pc := 47) C (T := TX11) inX11 0 rfl rfl 10 (by decide) q_303 rfl tyX11 tyX11_ok nmX11 rfl [(mo, .inr (15, [.ref e0, .ref c1, .ref c2, .ref c3, .ref c4, .ref c5, .null, .int (nI 0), .int (nI 0), .int 0, .int (nI 5), .int 0]))] (tyX11_ok 10 (by decide)) rfl (by rfl) (Nat.le_of_ble_eq_true rfl) rfl dX11_picture_47 ?_
          refine g_aload_n (pc := 50) C 0 rfl rfl dX11_picture_50 ?_
          refine g_iload_n (pc := 51) C 1 rfl rfl dX11_picture_51 ?_
          refine g_iload_n (pc := 52) C 1 rfl rfl dX11_picture_52 ?_
          refine g_imul (pc := 53) C dX11_picture_53 ?_
          refine g_newI (pc := 54) (cells := 0) (slots := 0) (g := 0) C 25 q_4 (by decide) (by decide) (Nat.le_of_ble_eq_true rfl) (Nat.le_of_ble_eq_true rfl) (Nat.le_of_ble_eq_true rfl) dX11_picture_54 (fun q1 => ?_)
          refine G.eqw (ws' := [(mo, .inr (15, [.ref e0, .ref c1, .ref c2, .ref c3, .ref c4, .ref c5, .null, .int (nI 0), .int (nI 0), .int 0, .int (nI 5), .int 0])), (q1, aI k 25 (fun _ => 0))]) rfl ?_
          refine g_put (pc := 56) C (T := TX11) inX11 0 rfl rfl 6 (by decide) q_293 rfl tyX11 tyX11_ok nmX11 rfl [(mo, .inr (15, [.ref e0, .ref c1, .ref c2, .ref c3, .ref c4, .ref c5, .ref q1, .int (nI 0), .int (nI 0), .int 0, .int (nI 5), .int 0])), (q1, aI k 25 (fun _ => 0))] (tyX11_ok 6 (by decide)) rfl rfl (Nat.le_of_ble_eq_true rfl) rfl dX11_picture_56 ?_
          refine g_aload_n (pc := 59) C 0 rfl rfl dX11_picture_59 ?_
          refine g_get (pc := 60) C (T := TX11) inX11 0 rfl rfl 6 (by decide) q_293 rfl rfl dX11_picture_60 ?_
          refine g_iload_n (pc := 63) C 1 rfl rfl dX11_picture_63 ?_
          refine g_iload_n (pc := 64) C 1 rfl rfl dX11_picture_64 ?_
          refine g_imul (pc := 65) C dX11_picture_65 ?_
          refine g_iconst (pc := 66) (v := 2) C (by decide) dX11_picture_66 ?_
          refine g_idiv (pc := 67) C (by first | assumption | decide) dX11_picture_67 ?_
          refine G.eqs (st' := [.int (nI 12), .ref q1]) (congrArg (β := List Value) (fun z9 => [.int z9, .ref q1]) (show ((((nI 5) * (nI 5)) / 2) : Int32) = (nI 12) from by decide)) ?_
          refine g_iload_n (pc := 68) C 2 rfl rfl dX11_picture_68 ?_
          refine g_iast_n (pc := 69) C (j := 12) 1 [(mo, .inr (15, [.ref e0, .ref c1, .ref c2, .ref c3, .ref c4, .ref c5, .ref q1, .int (nI 0), .int (nI 0), .int 0, .int (nI 5), .int 0])), (q1, aI k 25 (upd (fun _ => 0) 12 (nI m)))] rfl (by omega) (by first | decide | omega) rfl rfl dX11_picture_69 ?_
          refine G.fn (fun j9 => nI ((fm 5 m) j9)) 1 [(mo, .inr (15, [.ref e0, .ref c1, .ref c2, .ref c3, .ref c4, .ref c5, .ref q1, .int (nI 0), .int (nI 0), .int 0, .int (nI 5), .int 0])), (q1, aI k 25 (fun j9 => nI ((fm 5 m) j9)))] rfl (fun j hj => by { show upd (fun _ => 0) 12 (nI m) j = nI (if j = 12 then m else 0); unfold upd; by_cases h : j = 12 <;> simp [h, nI_0] }) rfl ?_
          refine g_iconst (pc := 70) (v := 0) C (by decide) dX11_picture_70 ?_
          refine g_istore_n (pc := 71) C [(3, .int 0), (0, .ref mo), (1, .int (nI 5)), (2, .int (nI m))] rfl dX11_picture_71 (by decide) rfl ?_
          refine g_iconst (pc := 72) (v := 0) C (by decide) dX11_picture_72 ?_
          refine g_istore (pc := 73) C [(4, .int 0), (3, .int 0), (0, .ref mo), (1, .int (nI 5)), (2, .int (nI m))] dX11_picture_73 (by decide) rfl ?_
          have key_75 : ∀ (fuel : Nat) (c : Nat) (g : Nat → Nat) (v : Nat → Nat), Went 5 (fm 5 m) g v → c ≤ 25 → (∀ j, j < c → g j < 4) → (713 - sumN v (5 * 5)) * 26 + (25 - c) < fuel → G p9 l e9 { frames := 1, cells := 1, slots := 25, locals := 22 } s9 m9 ([.ref mo, .int (nI 5), .int (nI m)] : List Value).toArray bl9 me9 co9 D 5 (va_A [(mo, .inr (15, [.ref e0, .ref c1, .ref c2, .ref c3, .ref c4, .ref c5, .null, .int (nI 0), .int (nI 0), .int 0, .int 0, .int th]))] s9.heap.size) (QM bl9 D ([.ref mo, .int (nI 5), .int (nI m)] : List Value).toArray s9 [(mo, .inr (15, [.ref e0, .ref c1, .ref c2, .ref c3, .ref c4, .ref c5, .null, .int (nI 0), .int (nI 0), .int 0, .int 0, .int th]))] (fun rv9 w9 => rv9 = (some (.int (nI (picN 5 (fm 5 m))))) ∧ ∃ (qq : Nat) (gg : Nat → Int32), w9 = [(mo, .inr (15, [.ref e0, .ref c1, .ref c2, .ref c3, .ref c4, .ref c5, .ref qq, .int (nI 0), .int (nI 0), .int 0, .int (nI 5), .int 0])), (qq, aI k 25 gg)]) 1 25 1) [(mo, .inr (15, [.ref e0, .ref c1, .ref c2, .ref c3, .ref c4, .ref c5, .ref q1, .int (nI 0), .int (nI 0), .int 0, .int (nI 5), .int 0])), (q1, aI k 25 (fun j9 => nI (g j9)))] [(0, .ref mo), (1, .int (nI 5)), (2, .int (nI m)), (3, .int (nI (sumN v (5 * 5)))), (4, .int (nI c))] 1 25 1 75 [] := by
            intro fuel
            induction fuel with
            | zero => intro c g v hW hc hq hm; exact absurd hm (Nat.not_lt_zero _)
            | succ fuel ih =>
              intro c g v hW hc hq hm
              have ih_75 := ih
              have hsum := went_sum hmm hW pw5_s
              rw [pw5_n] at hsum
              have hbnd := went_bnd hmm hW pw5_s pw5_b
              refine g_iload (pc := 75) C 4 rfl dX11_picture_75 ?_
              refine g_aload_n (pc := 77) C 0 rfl rfl dX11_picture_77 ?_
              refine g_get (pc := 78) C (T := TX11) inX11 0 rfl rfl 6 (by decide) q_293 rfl rfl dX11_picture_78 ?_
              refine g_alen (pc := 81) C 1 rfl (t0 := 0) rfl (v := (nI 25)) rfl dX11_picture_81 ?_
              refine g_icmp_ge (pc := 82) C 209 (by decide) dX11_picture_82 (fun c_82 => ?_) (fun c_82 => ?_)
              · have k82 : 25 ≤ c := by rcases Nat.lt_or_ge (c) (25) with q | q; exact absurd (show nI (25) ≤ nI (c) from c_82) (nI_ge q (by omega)); exact q
                refine g_iload_n (pc := 209) C 3 rfl rfl dX11_picture_209 ?_
                refine G.eqs (st' := [.int (nI (picN 5 (fm 5 m)))]) (congrArg (fun z9 => [Value.int z9]) (show ((nI (sumN v (5 * 5))) : Int32) = (nI (picN 5 (fm 5 m))) from by first | rfl | (rw [picN_eq hW (fun j hj => hq j (by omega))]))) ?_
                exact g_iret (pc := 210) C hr hlk (by first | decide | omega) (by first | decide | omega) (by first | decide | omega) dX11_picture_210 ⟨rfl, q1, (fun j9 => nI (g j9)), rfl⟩
              · have k82 : c < 25 := by rcases Nat.lt_or_ge (c) (25) with q | q; exact q; exact absurd (show nI (25) ≤ nI (c) from nI_le q (by omega)) c_82
                have hbc := hbnd c (show c < (5 * 5) by omega)
                refine g_aload_n (pc := 85) C 0 rfl rfl dX11_picture_85 ?_
                refine g_get (pc := 86) C (T := TX11) inX11 0 rfl rfl 6 (by decide) q_293 rfl rfl dX11_picture_86 ?_
                refine g_iload (pc := 89) C 4 rfl dX11_picture_89 ?_
                refine g_iald_n (pc := 91) C (j := c) 1 rfl (by omega) (by first | decide | omega) rfl dX11_picture_91 ?_
                refine G.eqs (st' := [.int (nI (g c))]) (congrArg (β := List Value) (fun z9 => [.int z9]) (show (((fun j9 => nI (g j9)) c) : Int32) = (nI (g c)) from rfl)) ?_
                refine g_iconst (pc := 92) (v := 4) C (by decide) dX11_picture_92 ?_
                refine g_icmp_ge (pc := 93) C 99 (by decide) dX11_picture_93 (fun c_93 => ?_) (fun c_93 => ?_)
                · have k93 : 4 ≤ g c := by rcases Nat.lt_or_ge (g c) (4) with q | q; exact absurd (show nI (4) ≤ nI (g c) from c_93) (nI_ge q (by omega)); exact q
                  have hsum2 := went_sum hmm (went_step (by decide) hW (show c < (5 * 5) by omega) (show 4 * 1 ≤ g c by omega)) pw5_s
                  rw [pw5_n, sumN_adv1 _ _ _ _ (show c < (5 * 5) by omega)] at hsum2
                  refine g_aload_n (pc := 99) C 0 rfl rfl dX11_picture_99 ?_
                  refine g_get (pc := 100) C (T := TX11) inX11 0 rfl rfl 6 (by decide) q_293 rfl rfl dX11_picture_100 ?_
                  refine g_iload (pc := 103) C 4 rfl dX11_picture_103 ?_
                  refine g_dup2 (pc := 105) C rfl rfl dX11_picture_105 ?_
                  refine g_iald_n (pc := 106) C (j := c) 1 rfl (by omega) (by first | decide | omega) rfl dX11_picture_106 ?_
                  refine G.eqs (st' := [.int (nI (g c)), .int (nI c), .ref q1]) (congrArg (β := List Value) (fun z9 => [.int z9, .int (nI c), .ref q1]) (show (((fun j9 => nI (g j9)) c) : Int32) = (nI (g c)) from rfl)) ?_
                  refine g_iconst (pc := 107) (v := 4) C (by decide) dX11_picture_107 ?_
                  refine g_isub (pc := 108) C dX11_picture_108 ?_
                  refine G.eqs (st' := [.int (nI (g c - 4)), .int (nI c), .ref q1]) (congrArg (β := List Value) (fun z9 => [.int z9, .int (nI c), .ref q1]) (show (((nI (g c)) - 4) : Int32) = (nI (g c - 4)) from by rw [show (4 : Int32) = nI 4 from rfl]; exact pk_sub (by omega))) ?_
                  refine g_iast_n (pc := 109) C (j := c) 1 [(mo, .inr (15, [.ref e0, .ref c1, .ref c2, .ref c3, .ref c4, .ref c5, .ref q1, .int (nI 0), .int (nI 0), .int 0, .int (nI 5), .int 0])), (q1, aI k 25 (upd (fun j9 => nI (g j9)) c (nI (g c - 4))))] rfl (by omega) (by first | decide | omega) rfl rfl dX11_picture_109 ?_
                  refine G.fn (fun j9 => nI ((sb g c 4) j9)) 1 [(mo, .inr (15, [.ref e0, .ref c1, .ref c2, .ref c3, .ref c4, .ref c5, .ref q1, .int (nI 0), .int (nI 0), .int 0, .int (nI 5), .int 0])), (q1, aI k 25 (fun j9 => nI ((sb g c 4) j9)))] rfl (fun j hj => by exact sb_put _ _ _ j) rfl ?_
                  refine g_iload (pc := 110) C 4 rfl dX11_picture_110 ?_
                  refine g_iload_n (pc := 112) C 1 rfl rfl dX11_picture_112 ?_
                  refine g_icmp_lt (pc := 113) C 129 (by decide) dX11_picture_113 (fun c_113 => ?_) (fun c_113 => ?_)
                  · have k113 : c < 5 := by rcases Nat.lt_or_ge (c) (5) with q | q; exact q; exact absurd c_113 (nI_nlt q (by omega))
                    refine g_iload (pc := 129) C 4 rfl dX11_picture_129 ?_
                    refine g_iload_n (pc := 131) C 1 rfl rfl dX11_picture_131 ?_
                    refine g_iadd (pc := 132) C dX11_picture_132 ?_
                    refine G.eqs (st' := [.int (nI (c + 5))]) (congrArg (β := List Value) (fun z9 => [.int z9]) (show (((nI c) + (nI 5)) : Int32) = (nI (c + 5)) from nI_add c 5)) ?_
                    refine g_aload_n (pc := 133) C 0 rfl rfl dX11_picture_133 ?_
                    refine g_get (pc := 134) C (T := TX11) inX11 0 rfl rfl 6 (by decide) q_293 rfl rfl dX11_picture_134 ?_
                    refine g_alen (pc := 137) C 1 rfl (t0 := 0) rfl (v := (nI 25)) rfl dX11_picture_137 ?_
                    refine g_icmp_ge (pc := 138) C 154 (by decide) dX11_picture_138 (fun c_138 => ?_) (fun c_138 => ?_)
                    · have k138 : 25 ≤ c + 5 := by rcases Nat.lt_or_ge (c + 5) (25) with q | q; exact absurd (show nI (25) ≤ nI (c + 5) from c_138) (nI_ge q (by omega)); exact q
                      refine g_iload (pc := 154) C 4 rfl dX11_picture_154 ?_
                      refine g_iload_n (pc := 156) C 1 rfl rfl dX11_picture_156 ?_
                      refine g_irem (pc := 157) C (by first | assumption | decide) dX11_picture_157 ?_
                      refine G.eqs (st' := [.int (nI (c % 5))]) (congrArg (β := List Value) (fun z9 => [.int z9]) (show (((nI c) - (nI c) / (nI 5) * (nI 5)) : Int32) = (nI (c % 5)) from pk_rem (by omega) (by decide) (by decide))) ?_
                      refine g_if_le (pc := 158) C 174 (by decide) dX11_picture_158 (fun c_158 => ?_) (fun c_158 => ?_)
                      · have k158 : c % 5 = 0 := by rcases Nat.eq_zero_or_pos (c % 5) with q | q; exact q; exact absurd c_158 (nI_nle q (by omega))
                        refine g_iload (pc := 174) C 4 rfl dX11_picture_174 ?_
                        refine g_iload_n (pc := 176) C 1 rfl rfl dX11_picture_176 ?_
                        refine g_irem (pc := 177) C (by first | assumption | decide) dX11_picture_177 ?_
                        refine G.eqs (st' := [.int (nI (c % 5))]) (congrArg (β := List Value) (fun z9 => [.int z9]) (show (((nI c) - (nI c) / (nI 5) * (nI 5)) : Int32) = (nI (c % 5)) from pk_rem (by omega) (by decide) (by decide))) ?_
                        refine g_iload_n (pc := 178) C 1 rfl rfl dX11_picture_178 ?_
                        refine g_iconst (pc := 179) (v := 1) C (by decide) dX11_picture_179 ?_
                        refine g_isub (pc := 180) C dX11_picture_180 ?_
                        refine G.eqs (st' := [.int (nI 4), .int (nI (c % 5))]) (congrArg (β := List Value) (fun z9 => [.int z9, .int (nI (c % 5))]) (show (((nI 5) - 1) : Int32) = (nI 4) from by decide)) ?_
                        refine g_icmp_ge (pc := 181) C 197 (by decide) dX11_picture_181 (fun c_181 => ?_) (fun c_181 => ?_)
                        · have k181 : 4 ≤ c % 5 := by rcases Nat.lt_or_ge (c % 5) (4) with q | q; exact absurd (show nI (4) ≤ nI (c % 5) from c_181) (nI_ge q (by omega)); exact q
                          refine g_iinc (pc := 197) (n := 1) (v := (nI ((sumN v (5 * 5)) + 1))) C 3 [(3, .int (nI ((sumN v (5 * 5)) + 1))), (0, .ref mo), (1, .int (nI 5)), (2, .int (nI m)), (4, .int (nI c))] rfl (nI_1 (sumN v (5 * 5))) dX11_picture_197 (by decide) rfl ?_
                          refine g_iconst (pc := 200) (v := (-1)) C (by decide) dX11_picture_200 ?_
                          refine g_istore (pc := 201) C [(4, .int (-1)), (3, .int (nI ((sumN v (5 * 5)) + 1))), (0, .ref mo), (1, .int (nI 5)), (2, .int (nI m))] dX11_picture_201 (by decide) rfl ?_
                          refine g_iinc (pc := 203) (n := 1) (v := ((-1) + 1)) C 0 [(4, .int ((-1) + 1)), (3, .int (nI ((sumN v (5 * 5)) + 1))), (0, .ref mo), (1, .int (nI 5)), (2, .int (nI m))] rfl rfl dX11_picture_203 (by decide) rfl ?_
                          refine g_goto (pc := 206) C 75 (by decide) dX11_picture_206 ?_
                          refine G.loc [2, 3, 4, 1, 0] (lv' := [(0, .ref mo), (1, .int (nI 5)), (2, .int (nI m)), (3, .int (nI ((sumN v (5 * 5)) + 1))), (4, .int ((-1) + 1))]) rfl ?_
                          refine G.fn (fun j9 => nI ((tpl 5 c 1 g) j9)) 1 [(mo, .inr (15, [.ref e0, .ref c1, .ref c2, .ref c3, .ref c4, .ref c5, .ref q1, .int (nI 0), .int (nI 0), .int 0, .int (nI 5), .int 0])), (q1, aI k 25 (fun j9 => nI ((tpl 5 c 1 g) j9)))] rfl (fun j hj => by first | rfl | (exact congrArg nI (by simp only [ad, sb, tpl, nbr]; repeat' (first | omega | split)))) rfl ?_
                          refine G.eql (lv' := [(0, .ref mo), (1, .int (nI 5)), (2, .int (nI m)), (3, .int (nI (sumN (adv v c 1) (5 * 5)))), (4, .int (nI 0))]) ((congrArg (β := List (Nat × Value)) (fun z9 => [(0, .ref mo), (1, .int (nI 5)), (2, .int (nI m)), (3, .int z9), (4, .int ((-1) + 1))]) (show ((nI ((sumN v (5 * 5)) + 1)) : Int32) = (nI (sumN (adv v c 1) (5 * 5))) from by first | rfl | decide | (rw [sumN_adv1 _ _ _ _ (show c < (5 * 5) by omega)]))).trans (congrArg (β := List (Nat × Value)) (fun z9 => [(0, .ref mo), (1, .int (nI 5)), (2, .int (nI m)), (3, .int (nI (sumN (adv v c 1) (5 * 5)))), (4, .int z9)]) (show (((-1) + 1) : Int32) = (nI 0) from by first | rfl | decide | (rw [sumN_adv1 _ _ _ _ (show c < (5 * 5) by omega)])))) ?_
                          exact ih_75 0 (tpl 5 c 1 g) (adv v c 1) (by first | exact hW | exact went_step (by decide) hW (show c < (5 * 5) by omega) (by omega)) (by omega) (by first | exact fun j hj => absurd hj (Nat.not_lt_zero j) | exact fun j hj => (by rcases Nat.lt_or_ge j c with q | q; exact hq j q; rw [show j = c by omega]; exact k93)) (by first | omega | (rw [sumN_adv1 _ _ _ _ (show c < (5 * 5) by omega)]; omega))
                        · have k181 : c % 5 < 4 := by rcases Nat.lt_or_ge (c % 5) (4) with q | q; exact q; exact absurd (show nI (4) ≤ nI (c % 5) from nI_le q (by omega)) c_181
                          refine g_aload_n (pc := 184) C 0 rfl rfl dX11_picture_184 ?_
                          refine g_get (pc := 185) C (T := TX11) inX11 0 rfl rfl 6 (by decide) q_293 rfl rfl dX11_picture_185 ?_
                          refine g_iload (pc := 188) C 4 rfl dX11_picture_188 ?_
                          refine g_iconst (pc := 190) (v := 1) C (by decide) dX11_picture_190 ?_
                          refine g_iadd (pc := 191) C dX11_picture_191 ?_
                          refine G.eqs (st' := [.int (nI (c + 1)), .ref q1]) (congrArg (β := List Value) (fun z9 => [.int z9, .ref q1]) (show (((nI c) + 1) : Int32) = (nI (c + 1)) from nI_1 c)) ?_
                          refine g_dup2 (pc := 192) C rfl rfl dX11_picture_192 ?_
                          refine g_iald_n (pc := 193) C (j := (c + 1)) 1 rfl (by omega) (by first | decide | omega) rfl dX11_picture_193 ?_
                          refine g_iconst (pc := 194) (v := 1) C (by decide) dX11_picture_194 ?_
                          refine g_iadd (pc := 195) C dX11_picture_195 ?_
                          refine g_iast_n (pc := 196) C (j := (c + 1)) 1 [(mo, .inr (15, [.ref e0, .ref c1, .ref c2, .ref c3, .ref c4, .ref c5, .ref q1, .int (nI 0), .int (nI 0), .int 0, .int (nI 5), .int 0])), (q1, aI k 25 (upd (fun j9 => nI ((sb g c 4) j9)) (c + 1) (((fun j9 => nI ((sb g c 4) j9)) (c + 1)) + 1)))] rfl (by omega) (by first | decide | omega) rfl rfl dX11_picture_196 ?_
                          refine G.fn (fun j9 => nI ((ad (sb g c 4) (c + 1) 1) j9)) 1 [(mo, .inr (15, [.ref e0, .ref c1, .ref c2, .ref c3, .ref c4, .ref c5, .ref q1, .int (nI 0), .int (nI 0), .int 0, .int (nI 5), .int 0])), (q1, aI k 25 (fun j9 => nI ((ad (sb g c 4) (c + 1) 1) j9)))] rfl (fun j hj => by exact ad_step _ _ _ j) rfl ?_
                          refine g_iinc (pc := 197) (n := 1) (v := (nI ((sumN v (5 * 5)) + 1))) C 3 [(3, .int (nI ((sumN v (5 * 5)) + 1))), (0, .ref mo), (1, .int (nI 5)), (2, .int (nI m)), (4, .int (nI c))] rfl (nI_1 (sumN v (5 * 5))) dX11_picture_197 (by decide) rfl ?_
                          refine g_iconst (pc := 200) (v := (-1)) C (by decide) dX11_picture_200 ?_
                          refine g_istore (pc := 201) C [(4, .int (-1)), (3, .int (nI ((sumN v (5 * 5)) + 1))), (0, .ref mo), (1, .int (nI 5)), (2, .int (nI m))] dX11_picture_201 (by decide) rfl ?_
                          refine g_iinc (pc := 203) (n := 1) (v := ((-1) + 1)) C 0 [(4, .int ((-1) + 1)), (3, .int (nI ((sumN v (5 * 5)) + 1))), (0, .ref mo), (1, .int (nI 5)), (2, .int (nI m))] rfl rfl dX11_picture_203 (by decide) rfl ?_
                          refine g_goto (pc := 206) C 75 (by decide) dX11_picture_206 ?_
                          refine G.loc [2, 3, 4, 1, 0] (lv' := [(0, .ref mo), (1, .int (nI 5)), (2, .int (nI m)), (3, .int (nI ((sumN v (5 * 5)) + 1))), (4, .int ((-1) + 1))]) rfl ?_
                          refine G.fn (fun j9 => nI ((tpl 5 c 1 g) j9)) 1 [(mo, .inr (15, [.ref e0, .ref c1, .ref c2, .ref c3, .ref c4, .ref c5, .ref q1, .int (nI 0), .int (nI 0), .int 0, .int (nI 5), .int 0])), (q1, aI k 25 (fun j9 => nI ((tpl 5 c 1 g) j9)))] rfl (fun j hj => by first | rfl | (exact congrArg nI (by simp only [ad, sb, tpl, nbr]; repeat' (first | omega | split)))) rfl ?_
                          refine G.eql (lv' := [(0, .ref mo), (1, .int (nI 5)), (2, .int (nI m)), (3, .int (nI (sumN (adv v c 1) (5 * 5)))), (4, .int (nI 0))]) ((congrArg (β := List (Nat × Value)) (fun z9 => [(0, .ref mo), (1, .int (nI 5)), (2, .int (nI m)), (3, .int z9), (4, .int ((-1) + 1))]) (show ((nI ((sumN v (5 * 5)) + 1)) : Int32) = (nI (sumN (adv v c 1) (5 * 5))) from by first | rfl | decide | (rw [sumN_adv1 _ _ _ _ (show c < (5 * 5) by omega)]))).trans (congrArg (β := List (Nat × Value)) (fun z9 => [(0, .ref mo), (1, .int (nI 5)), (2, .int (nI m)), (3, .int (nI (sumN (adv v c 1) (5 * 5)))), (4, .int z9)]) (show (((-1) + 1) : Int32) = (nI 0) from by first | rfl | decide | (rw [sumN_adv1 _ _ _ _ (show c < (5 * 5) by omega)])))) ?_
                          exact ih_75 0 (tpl 5 c 1 g) (adv v c 1) (by first | exact hW | exact went_step (by decide) hW (show c < (5 * 5) by omega) (by omega)) (by omega) (by first | exact fun j hj => absurd hj (Nat.not_lt_zero j) | exact fun j hj => (by rcases Nat.lt_or_ge j c with q | q; exact hq j q; rw [show j = c by omega]; exact k93)) (by first | omega | (rw [sumN_adv1 _ _ _ _ (show c < (5 * 5) by omega)]; omega))
                      · have k158 : 0 < c % 5 := by rcases Nat.eq_zero_or_pos (c % 5) with q | q; rw [q] at c_158; exact absurd (show nI 0 ≤ 0 by decide) c_158; exact q
                        refine g_aload_n (pc := 161) C 0 rfl rfl dX11_picture_161 ?_
                        refine g_get (pc := 162) C (T := TX11) inX11 0 rfl rfl 6 (by decide) q_293 rfl rfl dX11_picture_162 ?_
                        refine g_iload (pc := 165) C 4 rfl dX11_picture_165 ?_
                        refine g_iconst (pc := 167) (v := 1) C (by decide) dX11_picture_167 ?_
                        refine g_isub (pc := 168) C dX11_picture_168 ?_
                        refine G.eqs (st' := [.int (nI (c - 1)), .ref q1]) (congrArg (β := List Value) (fun z9 => [.int z9, .ref q1]) (show (((nI c) - 1) : Int32) = (nI (c - 1)) from by rw [show (1 : Int32) = nI 1 from rfl]; exact pk_sub (by omega))) ?_
                        refine g_dup2 (pc := 169) C rfl rfl dX11_picture_169 ?_
                        refine g_iald_n (pc := 170) C (j := (c - 1)) 1 rfl (by omega) (by first | decide | omega) rfl dX11_picture_170 ?_
                        refine g_iconst (pc := 171) (v := 1) C (by decide) dX11_picture_171 ?_
                        refine g_iadd (pc := 172) C dX11_picture_172 ?_
                        refine g_iast_n (pc := 173) C (j := (c - 1)) 1 [(mo, .inr (15, [.ref e0, .ref c1, .ref c2, .ref c3, .ref c4, .ref c5, .ref q1, .int (nI 0), .int (nI 0), .int 0, .int (nI 5), .int 0])), (q1, aI k 25 (upd (fun j9 => nI ((sb g c 4) j9)) (c - 1) (((fun j9 => nI ((sb g c 4) j9)) (c - 1)) + 1)))] rfl (by omega) (by first | decide | omega) rfl rfl dX11_picture_173 ?_
                        refine G.fn (fun j9 => nI ((ad (sb g c 4) (c - 1) 1) j9)) 1 [(mo, .inr (15, [.ref e0, .ref c1, .ref c2, .ref c3, .ref c4, .ref c5, .ref q1, .int (nI 0), .int (nI 0), .int 0, .int (nI 5), .int 0])), (q1, aI k 25 (fun j9 => nI ((ad (sb g c 4) (c - 1) 1) j9)))] rfl (fun j hj => by exact ad_step _ _ _ j) rfl ?_
                        refine g_iload (pc := 174) C 4 rfl dX11_picture_174 ?_
                        refine g_iload_n (pc := 176) C 1 rfl rfl dX11_picture_176 ?_
                        refine g_irem (pc := 177) C (by first | assumption | decide) dX11_picture_177 ?_
                        refine G.eqs (st' := [.int (nI (c % 5))]) (congrArg (β := List Value) (fun z9 => [.int z9]) (show (((nI c) - (nI c) / (nI 5) * (nI 5)) : Int32) = (nI (c % 5)) from pk_rem (by omega) (by decide) (by decide))) ?_
                        refine g_iload_n (pc := 178) C 1 rfl rfl dX11_picture_178 ?_
                        refine g_iconst (pc := 179) (v := 1) C (by decide) dX11_picture_179 ?_
                        refine g_isub (pc := 180) C dX11_picture_180 ?_
                        refine G.eqs (st' := [.int (nI 4), .int (nI (c % 5))]) (congrArg (β := List Value) (fun z9 => [.int z9, .int (nI (c % 5))]) (show (((nI 5) - 1) : Int32) = (nI 4) from by decide)) ?_
                        refine g_icmp_ge (pc := 181) C 197 (by decide) dX11_picture_181 (fun c_181 => ?_) (fun c_181 => ?_)
                        · have k181 : 4 ≤ c % 5 := by rcases Nat.lt_or_ge (c % 5) (4) with q | q; exact absurd (show nI (4) ≤ nI (c % 5) from c_181) (nI_ge q (by omega)); exact q
                          refine g_iinc (pc := 197) (n := 1) (v := (nI ((sumN v (5 * 5)) + 1))) C 3 [(3, .int (nI ((sumN v (5 * 5)) + 1))), (0, .ref mo), (1, .int (nI 5)), (2, .int (nI m)), (4, .int (nI c))] rfl (nI_1 (sumN v (5 * 5))) dX11_picture_197 (by decide) rfl ?_
                          refine g_iconst (pc := 200) (v := (-1)) C (by decide) dX11_picture_200 ?_
                          refine g_istore (pc := 201) C [(4, .int (-1)), (3, .int (nI ((sumN v (5 * 5)) + 1))), (0, .ref mo), (1, .int (nI 5)), (2, .int (nI m))] dX11_picture_201 (by decide) rfl ?_
                          refine g_iinc (pc := 203) (n := 1) (v := ((-1) + 1)) C 0 [(4, .int ((-1) + 1)), (3, .int (nI ((sumN v (5 * 5)) + 1))), (0, .ref mo), (1, .int (nI 5)), (2, .int (nI m))] rfl rfl dX11_picture_203 (by decide) rfl ?_
                          refine g_goto (pc := 206) C 75 (by decide) dX11_picture_206 ?_
                          refine G.loc [2, 3, 4, 1, 0] (lv' := [(0, .ref mo), (1, .int (nI 5)), (2, .int (nI m)), (3, .int (nI ((sumN v (5 * 5)) + 1))), (4, .int ((-1) + 1))]) rfl ?_
                          refine G.fn (fun j9 => nI ((tpl 5 c 1 g) j9)) 1 [(mo, .inr (15, [.ref e0, .ref c1, .ref c2, .ref c3, .ref c4, .ref c5, .ref q1, .int (nI 0), .int (nI 0), .int 0, .int (nI 5), .int 0])), (q1, aI k 25 (fun j9 => nI ((tpl 5 c 1 g) j9)))] rfl (fun j hj => by first | rfl | (exact congrArg nI (by simp only [ad, sb, tpl, nbr]; repeat' (first | omega | split)))) rfl ?_
                          refine G.eql (lv' := [(0, .ref mo), (1, .int (nI 5)), (2, .int (nI m)), (3, .int (nI (sumN (adv v c 1) (5 * 5)))), (4, .int (nI 0))]) ((congrArg (β := List (Nat × Value)) (fun z9 => [(0, .ref mo), (1, .int (nI 5)), (2, .int (nI m)), (3, .int z9), (4, .int ((-1) + 1))]) (show ((nI ((sumN v (5 * 5)) + 1)) : Int32) = (nI (sumN (adv v c 1) (5 * 5))) from by first | rfl | decide | (rw [sumN_adv1 _ _ _ _ (show c < (5 * 5) by omega)]))).trans (congrArg (β := List (Nat × Value)) (fun z9 => [(0, .ref mo), (1, .int (nI 5)), (2, .int (nI m)), (3, .int (nI (sumN (adv v c 1) (5 * 5)))), (4, .int z9)]) (show (((-1) + 1) : Int32) = (nI 0) from by first | rfl | decide | (rw [sumN_adv1 _ _ _ _ (show c < (5 * 5) by omega)])))) ?_
                          exact ih_75 0 (tpl 5 c 1 g) (adv v c 1) (by first | exact hW | exact went_step (by decide) hW (show c < (5 * 5) by omega) (by omega)) (by omega) (by first | exact fun j hj => absurd hj (Nat.not_lt_zero j) | exact fun j hj => (by rcases Nat.lt_or_ge j c with q | q; exact hq j q; rw [show j = c by omega]; exact k93)) (by first | omega | (rw [sumN_adv1 _ _ _ _ (show c < (5 * 5) by omega)]; omega))
                        · have k181 : c % 5 < 4 := by rcases Nat.lt_or_ge (c % 5) (4) with q | q; exact q; exact absurd (show nI (4) ≤ nI (c % 5) from nI_le q (by omega)) c_181
                          refine g_aload_n (pc := 184) C 0 rfl rfl dX11_picture_184 ?_
                          refine g_get (pc := 185) C (T := TX11) inX11 0 rfl rfl 6 (by decide) q_293 rfl rfl dX11_picture_185 ?_
                          refine g_iload (pc := 188) C 4 rfl dX11_picture_188 ?_
                          refine g_iconst (pc := 190) (v := 1) C (by decide) dX11_picture_190 ?_
                          refine g_iadd (pc := 191) C dX11_picture_191 ?_
                          refine G.eqs (st' := [.int (nI (c + 1)), .ref q1]) (congrArg (β := List Value) (fun z9 => [.int z9, .ref q1]) (show (((nI c) + 1) : Int32) = (nI (c + 1)) from nI_1 c)) ?_
                          refine g_dup2 (pc := 192) C rfl rfl dX11_picture_192 ?_
                          refine g_iald_n (pc := 193) C (j := (c + 1)) 1 rfl (by omega) (by first | decide | omega) rfl dX11_picture_193 ?_
                          refine g_iconst (pc := 194) (v := 1) C (by decide) dX11_picture_194 ?_
                          refine g_iadd (pc := 195) C dX11_picture_195 ?_
                          refine g_iast_n (pc := 196) C (j := (c + 1)) 1 [(mo, .inr (15, [.ref e0, .ref c1, .ref c2, .ref c3, .ref c4, .ref c5, .ref q1, .int (nI 0), .int (nI 0), .int 0, .int (nI 5), .int 0])), (q1, aI k 25 (upd (fun j9 => nI ((ad (sb g c 4) (c - 1) 1) j9)) (c + 1) (((fun j9 => nI ((ad (sb g c 4) (c - 1) 1) j9)) (c + 1)) + 1)))] rfl (by omega) (by first | decide | omega) rfl rfl dX11_picture_196 ?_
                          refine G.fn (fun j9 => nI ((ad (ad (sb g c 4) (c - 1) 1) (c + 1) 1) j9)) 1 [(mo, .inr (15, [.ref e0, .ref c1, .ref c2, .ref c3, .ref c4, .ref c5, .ref q1, .int (nI 0), .int (nI 0), .int 0, .int (nI 5), .int 0])), (q1, aI k 25 (fun j9 => nI ((ad (ad (sb g c 4) (c - 1) 1) (c + 1) 1) j9)))] rfl (fun j hj => by exact ad_step _ _ _ j) rfl ?_
                          refine g_iinc (pc := 197) (n := 1) (v := (nI ((sumN v (5 * 5)) + 1))) C 3 [(3, .int (nI ((sumN v (5 * 5)) + 1))), (0, .ref mo), (1, .int (nI 5)), (2, .int (nI m)), (4, .int (nI c))] rfl (nI_1 (sumN v (5 * 5))) dX11_picture_197 (by decide) rfl ?_
                          refine g_iconst (pc := 200) (v := (-1)) C (by decide) dX11_picture_200 ?_
                          refine g_istore (pc := 201) C [(4, .int (-1)), (3, .int (nI ((sumN v (5 * 5)) + 1))), (0, .ref mo), (1, .int (nI 5)), (2, .int (nI m))] dX11_picture_201 (by decide) rfl ?_
                          refine g_iinc (pc := 203) (n := 1) (v := ((-1) + 1)) C 0 [(4, .int ((-1) + 1)), (3, .int (nI ((sumN v (5 * 5)) + 1))), (0, .ref mo), (1, .int (nI 5)), (2, .int (nI m))] rfl rfl dX11_picture_203 (by decide) rfl ?_
                          refine g_goto (pc := 206) C 75 (by decide) dX11_picture_206 ?_
                          refine G.loc [2, 3, 4, 1, 0] (lv' := [(0, .ref mo), (1, .int (nI 5)), (2, .int (nI m)), (3, .int (nI ((sumN v (5 * 5)) + 1))), (4, .int ((-1) + 1))]) rfl ?_
                          refine G.fn (fun j9 => nI ((tpl 5 c 1 g) j9)) 1 [(mo, .inr (15, [.ref e0, .ref c1, .ref c2, .ref c3, .ref c4, .ref c5, .ref q1, .int (nI 0), .int (nI 0), .int 0, .int (nI 5), .int 0])), (q1, aI k 25 (fun j9 => nI ((tpl 5 c 1 g) j9)))] rfl (fun j hj => by first | rfl | (exact congrArg nI (by simp only [ad, sb, tpl, nbr]; repeat' (first | omega | split)))) rfl ?_
                          refine G.eql (lv' := [(0, .ref mo), (1, .int (nI 5)), (2, .int (nI m)), (3, .int (nI (sumN (adv v c 1) (5 * 5)))), (4, .int (nI 0))]) ((congrArg (β := List (Nat × Value)) (fun z9 => [(0, .ref mo), (1, .int (nI 5)), (2, .int (nI m)), (3, .int z9), (4, .int ((-1) + 1))]) (show ((nI ((sumN v (5 * 5)) + 1)) : Int32) = (nI (sumN (adv v c 1) (5 * 5))) from by first | rfl | decide | (rw [sumN_adv1 _ _ _ _ (show c < (5 * 5) by omega)]))).trans (congrArg (β := List (Nat × Value)) (fun z9 => [(0, .ref mo), (1, .int (nI 5)), (2, .int (nI m)), (3, .int (nI (sumN (adv v c 1) (5 * 5)))), (4, .int z9)]) (show (((-1) + 1) : Int32) = (nI 0) from by first | rfl | decide | (rw [sumN_adv1 _ _ _ _ (show c < (5 * 5) by omega)])))) ?_
                          exact ih_75 0 (tpl 5 c 1 g) (adv v c 1) (by first | exact hW | exact went_step (by decide) hW (show c < (5 * 5) by omega) (by omega)) (by omega) (by first | exact fun j hj => absurd hj (Nat.not_lt_zero j) | exact fun j hj => (by rcases Nat.lt_or_ge j c with q | q; exact hq j q; rw [show j = c by omega]; exact k93)) (by first | omega | (rw [sumN_adv1 _ _ _ _ (show c < (5 * 5) by omega)]; omega))
                    · have k138 : c + 5 < 25 := by rcases Nat.lt_or_ge (c + 5) (25) with q | q; exact q; exact absurd (show nI (25) ≤ nI (c + 5) from nI_le q (by omega)) c_138
                      refine g_aload_n (pc := 141) C 0 rfl rfl dX11_picture_141 ?_
                      refine g_get (pc := 142) C (T := TX11) inX11 0 rfl rfl 6 (by decide) q_293 rfl rfl dX11_picture_142 ?_
                      refine g_iload (pc := 145) C 4 rfl dX11_picture_145 ?_
                      refine g_iload_n (pc := 147) C 1 rfl rfl dX11_picture_147 ?_
                      refine g_iadd (pc := 148) C dX11_picture_148 ?_
                      refine G.eqs (st' := [.int (nI (c + 5)), .ref q1]) (congrArg (β := List Value) (fun z9 => [.int z9, .ref q1]) (show (((nI c) + (nI 5)) : Int32) = (nI (c + 5)) from nI_add c 5)) ?_
                      refine g_dup2 (pc := 149) C rfl rfl dX11_picture_149 ?_
                      refine g_iald_n (pc := 150) C (j := (c + 5)) 1 rfl (by omega) (by first | decide | omega) rfl dX11_picture_150 ?_
                      refine g_iconst (pc := 151) (v := 1) C (by decide) dX11_picture_151 ?_
                      refine g_iadd (pc := 152) C dX11_picture_152 ?_
                      refine g_iast_n (pc := 153) C (j := (c + 5)) 1 [(mo, .inr (15, [.ref e0, .ref c1, .ref c2, .ref c3, .ref c4, .ref c5, .ref q1, .int (nI 0), .int (nI 0), .int 0, .int (nI 5), .int 0])), (q1, aI k 25 (upd (fun j9 => nI ((sb g c 4) j9)) (c + 5) (((fun j9 => nI ((sb g c 4) j9)) (c + 5)) + 1)))] rfl (by omega) (by first | decide | omega) rfl rfl dX11_picture_153 ?_
                      refine G.fn (fun j9 => nI ((ad (sb g c 4) (c + 5) 1) j9)) 1 [(mo, .inr (15, [.ref e0, .ref c1, .ref c2, .ref c3, .ref c4, .ref c5, .ref q1, .int (nI 0), .int (nI 0), .int 0, .int (nI 5), .int 0])), (q1, aI k 25 (fun j9 => nI ((ad (sb g c 4) (c + 5) 1) j9)))] rfl (fun j hj => by exact ad_step _ _ _ j) rfl ?_
                      refine g_iload (pc := 154) C 4 rfl dX11_picture_154 ?_
                      refine g_iload_n (pc := 156) C 1 rfl rfl dX11_picture_156 ?_
                      refine g_irem (pc := 157) C (by first | assumption | decide) dX11_picture_157 ?_
                      refine G.eqs (st' := [.int (nI (c % 5))]) (congrArg (β := List Value) (fun z9 => [.int z9]) (show (((nI c) - (nI c) / (nI 5) * (nI 5)) : Int32) = (nI (c % 5)) from pk_rem (by omega) (by decide) (by decide))) ?_
                      refine g_if_le (pc := 158) C 174 (by decide) dX11_picture_158 (fun c_158 => ?_) (fun c_158 => ?_)
                      · have k158 : c % 5 = 0 := by rcases Nat.eq_zero_or_pos (c % 5) with q | q; exact q; exact absurd c_158 (nI_nle q (by omega))
                        refine g_iload (pc := 174) C 4 rfl dX11_picture_174 ?_
                        refine g_iload_n (pc := 176) C 1 rfl rfl dX11_picture_176 ?_
                        refine g_irem (pc := 177) C (by first | assumption | decide) dX11_picture_177 ?_
                        refine G.eqs (st' := [.int (nI (c % 5))]) (congrArg (β := List Value) (fun z9 => [.int z9]) (show (((nI c) - (nI c) / (nI 5) * (nI 5)) : Int32) = (nI (c % 5)) from pk_rem (by omega) (by decide) (by decide))) ?_
                        refine g_iload_n (pc := 178) C 1 rfl rfl dX11_picture_178 ?_
                        refine g_iconst (pc := 179) (v := 1) C (by decide) dX11_picture_179 ?_
                        refine g_isub (pc := 180) C dX11_picture_180 ?_
                        refine G.eqs (st' := [.int (nI 4), .int (nI (c % 5))]) (congrArg (β := List Value) (fun z9 => [.int z9, .int (nI (c % 5))]) (show (((nI 5) - 1) : Int32) = (nI 4) from by decide)) ?_
                        refine g_icmp_ge (pc := 181) C 197 (by decide) dX11_picture_181 (fun c_181 => ?_) (fun c_181 => ?_)
                        · have k181 : 4 ≤ c % 5 := by rcases Nat.lt_or_ge (c % 5) (4) with q | q; exact absurd (show nI (4) ≤ nI (c % 5) from c_181) (nI_ge q (by omega)); exact q
                          refine g_iinc (pc := 197) (n := 1) (v := (nI ((sumN v (5 * 5)) + 1))) C 3 [(3, .int (nI ((sumN v (5 * 5)) + 1))), (0, .ref mo), (1, .int (nI 5)), (2, .int (nI m)), (4, .int (nI c))] rfl (nI_1 (sumN v (5 * 5))) dX11_picture_197 (by decide) rfl ?_
                          refine g_iconst (pc := 200) (v := (-1)) C (by decide) dX11_picture_200 ?_
                          refine g_istore (pc := 201) C [(4, .int (-1)), (3, .int (nI ((sumN v (5 * 5)) + 1))), (0, .ref mo), (1, .int (nI 5)), (2, .int (nI m))] dX11_picture_201 (by decide) rfl ?_
                          refine g_iinc (pc := 203) (n := 1) (v := ((-1) + 1)) C 0 [(4, .int ((-1) + 1)), (3, .int (nI ((sumN v (5 * 5)) + 1))), (0, .ref mo), (1, .int (nI 5)), (2, .int (nI m))] rfl rfl dX11_picture_203 (by decide) rfl ?_
                          refine g_goto (pc := 206) C 75 (by decide) dX11_picture_206 ?_
                          refine G.loc [2, 3, 4, 1, 0] (lv' := [(0, .ref mo), (1, .int (nI 5)), (2, .int (nI m)), (3, .int (nI ((sumN v (5 * 5)) + 1))), (4, .int ((-1) + 1))]) rfl ?_
                          refine G.fn (fun j9 => nI ((tpl 5 c 1 g) j9)) 1 [(mo, .inr (15, [.ref e0, .ref c1, .ref c2, .ref c3, .ref c4, .ref c5, .ref q1, .int (nI 0), .int (nI 0), .int 0, .int (nI 5), .int 0])), (q1, aI k 25 (fun j9 => nI ((tpl 5 c 1 g) j9)))] rfl (fun j hj => by first | rfl | (exact congrArg nI (by simp only [ad, sb, tpl, nbr]; repeat' (first | omega | split)))) rfl ?_
                          refine G.eql (lv' := [(0, .ref mo), (1, .int (nI 5)), (2, .int (nI m)), (3, .int (nI (sumN (adv v c 1) (5 * 5)))), (4, .int (nI 0))]) ((congrArg (β := List (Nat × Value)) (fun z9 => [(0, .ref mo), (1, .int (nI 5)), (2, .int (nI m)), (3, .int z9), (4, .int ((-1) + 1))]) (show ((nI ((sumN v (5 * 5)) + 1)) : Int32) = (nI (sumN (adv v c 1) (5 * 5))) from by first | rfl | decide | (rw [sumN_adv1 _ _ _ _ (show c < (5 * 5) by omega)]))).trans (congrArg (β := List (Nat × Value)) (fun z9 => [(0, .ref mo), (1, .int (nI 5)), (2, .int (nI m)), (3, .int (nI (sumN (adv v c 1) (5 * 5)))), (4, .int z9)]) (show (((-1) + 1) : Int32) = (nI 0) from by first | rfl | decide | (rw [sumN_adv1 _ _ _ _ (show c < (5 * 5) by omega)])))) ?_
                          exact ih_75 0 (tpl 5 c 1 g) (adv v c 1) (by first | exact hW | exact went_step (by decide) hW (show c < (5 * 5) by omega) (by omega)) (by omega) (by first | exact fun j hj => absurd hj (Nat.not_lt_zero j) | exact fun j hj => (by rcases Nat.lt_or_ge j c with q | q; exact hq j q; rw [show j = c by omega]; exact k93)) (by first | omega | (rw [sumN_adv1 _ _ _ _ (show c < (5 * 5) by omega)]; omega))
                        · have k181 : c % 5 < 4 := by rcases Nat.lt_or_ge (c % 5) (4) with q | q; exact q; exact absurd (show nI (4) ≤ nI (c % 5) from nI_le q (by omega)) c_181
                          refine g_aload_n (pc := 184) C 0 rfl rfl dX11_picture_184 ?_
                          refine g_get (pc := 185) C (T := TX11) inX11 0 rfl rfl 6 (by decide) q_293 rfl rfl dX11_picture_185 ?_
                          refine g_iload (pc := 188) C 4 rfl dX11_picture_188 ?_
                          refine g_iconst (pc := 190) (v := 1) C (by decide) dX11_picture_190 ?_
                          refine g_iadd (pc := 191) C dX11_picture_191 ?_
                          refine G.eqs (st' := [.int (nI (c + 1)), .ref q1]) (congrArg (β := List Value) (fun z9 => [.int z9, .ref q1]) (show (((nI c) + 1) : Int32) = (nI (c + 1)) from nI_1 c)) ?_
                          refine g_dup2 (pc := 192) C rfl rfl dX11_picture_192 ?_
                          refine g_iald_n (pc := 193) C (j := (c + 1)) 1 rfl (by omega) (by first | decide | omega) rfl dX11_picture_193 ?_
                          refine g_iconst (pc := 194) (v := 1) C (by decide) dX11_picture_194 ?_
                          refine g_iadd (pc := 195) C dX11_picture_195 ?_
                          refine g_iast_n (pc := 196) C (j := (c + 1)) 1 [(mo, .inr (15, [.ref e0, .ref c1, .ref c2, .ref c3, .ref c4, .ref c5, .ref q1, .int (nI 0), .int (nI 0), .int 0, .int (nI 5), .int 0])), (q1, aI k 25 (upd (fun j9 => nI ((ad (sb g c 4) (c + 5) 1) j9)) (c + 1) (((fun j9 => nI ((ad (sb g c 4) (c + 5) 1) j9)) (c + 1)) + 1)))] rfl (by omega) (by first | decide | omega) rfl rfl dX11_picture_196 ?_
                          refine G.fn (fun j9 => nI ((ad (ad (sb g c 4) (c + 5) 1) (c + 1) 1) j9)) 1 [(mo, .inr (15, [.ref e0, .ref c1, .ref c2, .ref c3, .ref c4, .ref c5, .ref q1, .int (nI 0), .int (nI 0), .int 0, .int (nI 5), .int 0])), (q1, aI k 25 (fun j9 => nI ((ad (ad (sb g c 4) (c + 5) 1) (c + 1) 1) j9)))] rfl (fun j hj => by exact ad_step _ _ _ j) rfl ?_
                          refine g_iinc (pc := 197) (n := 1) (v := (nI ((sumN v (5 * 5)) + 1))) C 3 [(3, .int (nI ((sumN v (5 * 5)) + 1))), (0, .ref mo), (1, .int (nI 5)), (2, .int (nI m)), (4, .int (nI c))] rfl (nI_1 (sumN v (5 * 5))) dX11_picture_197 (by decide) rfl ?_
                          refine g_iconst (pc := 200) (v := (-1)) C (by decide) dX11_picture_200 ?_
                          refine g_istore (pc := 201) C [(4, .int (-1)), (3, .int (nI ((sumN v (5 * 5)) + 1))), (0, .ref mo), (1, .int (nI 5)), (2, .int (nI m))] dX11_picture_201 (by decide) rfl ?_
                          refine g_iinc (pc := 203) (n := 1) (v := ((-1) + 1)) C 0 [(4, .int ((-1) + 1)), (3, .int (nI ((sumN v (5 * 5)) + 1))), (0, .ref mo), (1, .int (nI 5)), (2, .int (nI m))] rfl rfl dX11_picture_203 (by decide) rfl ?_
                          refine g_goto (pc := 206) C 75 (by decide) dX11_picture_206 ?_
                          refine G.loc [2, 3, 4, 1, 0] (lv' := [(0, .ref mo), (1, .int (nI 5)), (2, .int (nI m)), (3, .int (nI ((sumN v (5 * 5)) + 1))), (4, .int ((-1) + 1))]) rfl ?_
                          refine G.fn (fun j9 => nI ((tpl 5 c 1 g) j9)) 1 [(mo, .inr (15, [.ref e0, .ref c1, .ref c2, .ref c3, .ref c4, .ref c5, .ref q1, .int (nI 0), .int (nI 0), .int 0, .int (nI 5), .int 0])), (q1, aI k 25 (fun j9 => nI ((tpl 5 c 1 g) j9)))] rfl (fun j hj => by first | rfl | (exact congrArg nI (by simp only [ad, sb, tpl, nbr]; repeat' (first | omega | split)))) rfl ?_
                          refine G.eql (lv' := [(0, .ref mo), (1, .int (nI 5)), (2, .int (nI m)), (3, .int (nI (sumN (adv v c 1) (5 * 5)))), (4, .int (nI 0))]) ((congrArg (β := List (Nat × Value)) (fun z9 => [(0, .ref mo), (1, .int (nI 5)), (2, .int (nI m)), (3, .int z9), (4, .int ((-1) + 1))]) (show ((nI ((sumN v (5 * 5)) + 1)) : Int32) = (nI (sumN (adv v c 1) (5 * 5))) from by first | rfl | decide | (rw [sumN_adv1 _ _ _ _ (show c < (5 * 5) by omega)]))).trans (congrArg (β := List (Nat × Value)) (fun z9 => [(0, .ref mo), (1, .int (nI 5)), (2, .int (nI m)), (3, .int (nI (sumN (adv v c 1) (5 * 5)))), (4, .int z9)]) (show (((-1) + 1) : Int32) = (nI 0) from by first | rfl | decide | (rw [sumN_adv1 _ _ _ _ (show c < (5 * 5) by omega)])))) ?_
                          exact ih_75 0 (tpl 5 c 1 g) (adv v c 1) (by first | exact hW | exact went_step (by decide) hW (show c < (5 * 5) by omega) (by omega)) (by omega) (by first | exact fun j hj => absurd hj (Nat.not_lt_zero j) | exact fun j hj => (by rcases Nat.lt_or_ge j c with q | q; exact hq j q; rw [show j = c by omega]; exact k93)) (by first | omega | (rw [sumN_adv1 _ _ _ _ (show c < (5 * 5) by omega)]; omega))
                      · have k158 : 0 < c % 5 := by rcases Nat.eq_zero_or_pos (c % 5) with q | q; rw [q] at c_158; exact absurd (show nI 0 ≤ 0 by decide) c_158; exact q
                        refine g_aload_n (pc := 161) C 0 rfl rfl dX11_picture_161 ?_
                        refine g_get (pc := 162) C (T := TX11) inX11 0 rfl rfl 6 (by decide) q_293 rfl rfl dX11_picture_162 ?_
                        refine g_iload (pc := 165) C 4 rfl dX11_picture_165 ?_
                        refine g_iconst (pc := 167) (v := 1) C (by decide) dX11_picture_167 ?_
                        refine g_isub (pc := 168) C dX11_picture_168 ?_
                        refine G.eqs (st' := [.int (nI (c - 1)), .ref q1]) (congrArg (β := List Value) (fun z9 => [.int z9, .ref q1]) (show (((nI c) - 1) : Int32) = (nI (c - 1)) from by rw [show (1 : Int32) = nI 1 from rfl]; exact pk_sub (by omega))) ?_
                        refine g_dup2 (pc := 169) C rfl rfl dX11_picture_169 ?_
                        refine g_iald_n (pc := 170) C (j := (c - 1)) 1 rfl (by omega) (by first | decide | omega) rfl dX11_picture_170 ?_
                        refine g_iconst (pc := 171) (v := 1) C (by decide) dX11_picture_171 ?_
                        refine g_iadd (pc := 172) C dX11_picture_172 ?_
                        refine g_iast_n (pc := 173) C (j := (c - 1)) 1 [(mo, .inr (15, [.ref e0, .ref c1, .ref c2, .ref c3, .ref c4, .ref c5, .ref q1, .int (nI 0), .int (nI 0), .int 0, .int (nI 5), .int 0])), (q1, aI k 25 (upd (fun j9 => nI ((ad (sb g c 4) (c + 5) 1) j9)) (c - 1) (((fun j9 => nI ((ad (sb g c 4) (c + 5) 1) j9)) (c - 1)) + 1)))] rfl (by omega) (by first | decide | omega) rfl rfl dX11_picture_173 ?_
                        refine G.fn (fun j9 => nI ((ad (ad (sb g c 4) (c + 5) 1) (c - 1) 1) j9)) 1 [(mo, .inr (15, [.ref e0, .ref c1, .ref c2, .ref c3, .ref c4, .ref c5, .ref q1, .int (nI 0), .int (nI 0), .int 0, .int (nI 5), .int 0])), (q1, aI k 25 (fun j9 => nI ((ad (ad (sb g c 4) (c + 5) 1) (c - 1) 1) j9)))] rfl (fun j hj => by exact ad_step _ _ _ j) rfl ?_
                        refine g_iload (pc := 174) C 4 rfl dX11_picture_174 ?_
                        refine g_iload_n (pc := 176) C 1 rfl rfl dX11_picture_176 ?_
                        refine g_irem (pc := 177) C (by first | assumption | decide) dX11_picture_177 ?_
                        refine G.eqs (st' := [.int (nI (c % 5))]) (congrArg (β := List Value) (fun z9 => [.int z9]) (show (((nI c) - (nI c) / (nI 5) * (nI 5)) : Int32) = (nI (c % 5)) from pk_rem (by omega) (by decide) (by decide))) ?_
                        refine g_iload_n (pc := 178) C 1 rfl rfl dX11_picture_178 ?_
                        refine g_iconst (pc := 179) (v := 1) C (by decide) dX11_picture_179 ?_
                        refine g_isub (pc := 180) C dX11_picture_180 ?_
                        refine G.eqs (st' := [.int (nI 4), .int (nI (c % 5))]) (congrArg (β := List Value) (fun z9 => [.int z9, .int (nI (c % 5))]) (show (((nI 5) - 1) : Int32) = (nI 4) from by decide)) ?_
                        refine g_icmp_ge (pc := 181) C 197 (by decide) dX11_picture_181 (fun c_181 => ?_) (fun c_181 => ?_)
                        · have k181 : 4 ≤ c % 5 := by rcases Nat.lt_or_ge (c % 5) (4) with q | q; exact absurd (show nI (4) ≤ nI (c % 5) from c_181) (nI_ge q (by omega)); exact q
                          refine g_iinc (pc := 197) (n := 1) (v := (nI ((sumN v (5 * 5)) + 1))) C 3 [(3, .int (nI ((sumN v (5 * 5)) + 1))), (0, .ref mo), (1, .int (nI 5)), (2, .int (nI m)), (4, .int (nI c))] rfl (nI_1 (sumN v (5 * 5))) dX11_picture_197 (by decide) rfl ?_
                          refine g_iconst (pc := 200) (v := (-1)) C (by decide) dX11_picture_200 ?_
                          refine g_istore (pc := 201) C [(4, .int (-1)), (3, .int (nI ((sumN v (5 * 5)) + 1))), (0, .ref mo), (1, .int (nI 5)), (2, .int (nI m))] dX11_picture_201 (by decide) rfl ?_
                          refine g_iinc (pc := 203) (n := 1) (v := ((-1) + 1)) C 0 [(4, .int ((-1) + 1)), (3, .int (nI ((sumN v (5 * 5)) + 1))), (0, .ref mo), (1, .int (nI 5)), (2, .int (nI m))] rfl rfl dX11_picture_203 (by decide) rfl ?_
                          refine g_goto (pc := 206) C 75 (by decide) dX11_picture_206 ?_
                          refine G.loc [2, 3, 4, 1, 0] (lv' := [(0, .ref mo), (1, .int (nI 5)), (2, .int (nI m)), (3, .int (nI ((sumN v (5 * 5)) + 1))), (4, .int ((-1) + 1))]) rfl ?_
                          refine G.fn (fun j9 => nI ((tpl 5 c 1 g) j9)) 1 [(mo, .inr (15, [.ref e0, .ref c1, .ref c2, .ref c3, .ref c4, .ref c5, .ref q1, .int (nI 0), .int (nI 0), .int 0, .int (nI 5), .int 0])), (q1, aI k 25 (fun j9 => nI ((tpl 5 c 1 g) j9)))] rfl (fun j hj => by first | rfl | (exact congrArg nI (by simp only [ad, sb, tpl, nbr]; repeat' (first | omega | split)))) rfl ?_
                          refine G.eql (lv' := [(0, .ref mo), (1, .int (nI 5)), (2, .int (nI m)), (3, .int (nI (sumN (adv v c 1) (5 * 5)))), (4, .int (nI 0))]) ((congrArg (β := List (Nat × Value)) (fun z9 => [(0, .ref mo), (1, .int (nI 5)), (2, .int (nI m)), (3, .int z9), (4, .int ((-1) + 1))]) (show ((nI ((sumN v (5 * 5)) + 1)) : Int32) = (nI (sumN (adv v c 1) (5 * 5))) from by first | rfl | decide | (rw [sumN_adv1 _ _ _ _ (show c < (5 * 5) by omega)]))).trans (congrArg (β := List (Nat × Value)) (fun z9 => [(0, .ref mo), (1, .int (nI 5)), (2, .int (nI m)), (3, .int (nI (sumN (adv v c 1) (5 * 5)))), (4, .int z9)]) (show (((-1) + 1) : Int32) = (nI 0) from by first | rfl | decide | (rw [sumN_adv1 _ _ _ _ (show c < (5 * 5) by omega)])))) ?_
                          exact ih_75 0 (tpl 5 c 1 g) (adv v c 1) (by first | exact hW | exact went_step (by decide) hW (show c < (5 * 5) by omega) (by omega)) (by omega) (by first | exact fun j hj => absurd hj (Nat.not_lt_zero j) | exact fun j hj => (by rcases Nat.lt_or_ge j c with q | q; exact hq j q; rw [show j = c by omega]; exact k93)) (by first | omega | (rw [sumN_adv1 _ _ _ _ (show c < (5 * 5) by omega)]; omega))
                        · have k181 : c % 5 < 4 := by rcases Nat.lt_or_ge (c % 5) (4) with q | q; exact q; exact absurd (show nI (4) ≤ nI (c % 5) from nI_le q (by omega)) c_181
                          refine g_aload_n (pc := 184) C 0 rfl rfl dX11_picture_184 ?_
                          refine g_get (pc := 185) C (T := TX11) inX11 0 rfl rfl 6 (by decide) q_293 rfl rfl dX11_picture_185 ?_
                          refine g_iload (pc := 188) C 4 rfl dX11_picture_188 ?_
                          refine g_iconst (pc := 190) (v := 1) C (by decide) dX11_picture_190 ?_
                          refine g_iadd (pc := 191) C dX11_picture_191 ?_
                          refine G.eqs (st' := [.int (nI (c + 1)), .ref q1]) (congrArg (β := List Value) (fun z9 => [.int z9, .ref q1]) (show (((nI c) + 1) : Int32) = (nI (c + 1)) from nI_1 c)) ?_
                          refine g_dup2 (pc := 192) C rfl rfl dX11_picture_192 ?_
                          refine g_iald_n (pc := 193) C (j := (c + 1)) 1 rfl (by omega) (by first | decide | omega) rfl dX11_picture_193 ?_
                          refine g_iconst (pc := 194) (v := 1) C (by decide) dX11_picture_194 ?_
                          refine g_iadd (pc := 195) C dX11_picture_195 ?_
                          refine g_iast_n (pc := 196) C (j := (c + 1)) 1 [(mo, .inr (15, [.ref e0, .ref c1, .ref c2, .ref c3, .ref c4, .ref c5, .ref q1, .int (nI 0), .int (nI 0), .int 0, .int (nI 5), .int 0])), (q1, aI k 25 (upd (fun j9 => nI ((ad (ad (sb g c 4) (c + 5) 1) (c - 1) 1) j9)) (c + 1) (((fun j9 => nI ((ad (ad (sb g c 4) (c + 5) 1) (c - 1) 1) j9)) (c + 1)) + 1)))] rfl (by omega) (by first | decide | omega) rfl rfl dX11_picture_196 ?_
                          refine G.fn (fun j9 => nI ((ad (ad (ad (sb g c 4) (c + 5) 1) (c - 1) 1) (c + 1) 1) j9)) 1 [(mo, .inr (15, [.ref e0, .ref c1, .ref c2, .ref c3, .ref c4, .ref c5, .ref q1, .int (nI 0), .int (nI 0), .int 0, .int (nI 5), .int 0])), (q1, aI k 25 (fun j9 => nI ((ad (ad (ad (sb g c 4) (c + 5) 1) (c - 1) 1) (c + 1) 1) j9)))] rfl (fun j hj => by exact ad_step _ _ _ j) rfl ?_
                          refine g_iinc (pc := 197) (n := 1) (v := (nI ((sumN v (5 * 5)) + 1))) C 3 [(3, .int (nI ((sumN v (5 * 5)) + 1))), (0, .ref mo), (1, .int (nI 5)), (2, .int (nI m)), (4, .int (nI c))] rfl (nI_1 (sumN v (5 * 5))) dX11_picture_197 (by decide) rfl ?_
                          refine g_iconst (pc := 200) (v := (-1)) C (by decide) dX11_picture_200 ?_
                          refine g_istore (pc := 201) C [(4, .int (-1)), (3, .int (nI ((sumN v (5 * 5)) + 1))), (0, .ref mo), (1, .int (nI 5)), (2, .int (nI m))] dX11_picture_201 (by decide) rfl ?_
                          refine g_iinc (pc := 203) (n := 1) (v := ((-1) + 1)) C 0 [(4, .int ((-1) + 1)), (3, .int (nI ((sumN v (5 * 5)) + 1))), (0, .ref mo), (1, .int (nI 5)), (2, .int (nI m))] rfl rfl dX11_picture_203 (by decide) rfl ?_
                          refine g_goto (pc := 206) C 75 (by decide) dX11_picture_206 ?_
                          refine G.loc [2, 3, 4, 1, 0] (lv' := [(0, .ref mo), (1, .int (nI 5)), (2, .int (nI m)), (3, .int (nI ((sumN v (5 * 5)) + 1))), (4, .int ((-1) + 1))]) rfl ?_
                          refine G.fn (fun j9 => nI ((tpl 5 c 1 g) j9)) 1 [(mo, .inr (15, [.ref e0, .ref c1, .ref c2, .ref c3, .ref c4, .ref c5, .ref q1, .int (nI 0), .int (nI 0), .int 0, .int (nI 5), .int 0])), (q1, aI k 25 (fun j9 => nI ((tpl 5 c 1 g) j9)))] rfl (fun j hj => by first | rfl | (exact congrArg nI (by simp only [ad, sb, tpl, nbr]; repeat' (first | omega | split)))) rfl ?_
                          refine G.eql (lv' := [(0, .ref mo), (1, .int (nI 5)), (2, .int (nI m)), (3, .int (nI (sumN (adv v c 1) (5 * 5)))), (4, .int (nI 0))]) ((congrArg (β := List (Nat × Value)) (fun z9 => [(0, .ref mo), (1, .int (nI 5)), (2, .int (nI m)), (3, .int z9), (4, .int ((-1) + 1))]) (show ((nI ((sumN v (5 * 5)) + 1)) : Int32) = (nI (sumN (adv v c 1) (5 * 5))) from by first | rfl | decide | (rw [sumN_adv1 _ _ _ _ (show c < (5 * 5) by omega)]))).trans (congrArg (β := List (Nat × Value)) (fun z9 => [(0, .ref mo), (1, .int (nI 5)), (2, .int (nI m)), (3, .int (nI (sumN (adv v c 1) (5 * 5)))), (4, .int z9)]) (show (((-1) + 1) : Int32) = (nI 0) from by first | rfl | decide | (rw [sumN_adv1 _ _ _ _ (show c < (5 * 5) by omega)])))) ?_
                          exact ih_75 0 (tpl 5 c 1 g) (adv v c 1) (by first | exact hW | exact went_step (by decide) hW (show c < (5 * 5) by omega) (by omega)) (by omega) (by first | exact fun j hj => absurd hj (Nat.not_lt_zero j) | exact fun j hj => (by rcases Nat.lt_or_ge j c with q | q; exact hq j q; rw [show j = c by omega]; exact k93)) (by first | omega | (rw [sumN_adv1 _ _ _ _ (show c < (5 * 5) by omega)]; omega))
                  · have k113 : 5 ≤ c := by rcases Nat.lt_or_ge (c) (5) with q | q; exact absurd (nI_lt q (by omega)) c_113; exact q
                    refine g_aload_n (pc := 116) C 0 rfl rfl dX11_picture_116 ?_
                    refine g_get (pc := 117) C (T := TX11) inX11 0 rfl rfl 6 (by decide) q_293 rfl rfl dX11_picture_117 ?_
                    refine g_iload (pc := 120) C 4 rfl dX11_picture_120 ?_
                    refine g_iload_n (pc := 122) C 1 rfl rfl dX11_picture_122 ?_
                    refine g_isub (pc := 123) C dX11_picture_123 ?_
                    refine G.eqs (st' := [.int (nI (c - 5)), .ref q1]) (congrArg (β := List Value) (fun z9 => [.int z9, .ref q1]) (show (((nI c) - (nI 5)) : Int32) = (nI (c - 5)) from pk_sub (by omega))) ?_
                    refine g_dup2 (pc := 124) C rfl rfl dX11_picture_124 ?_
                    refine g_iald_n (pc := 125) C (j := (c - 5)) 1 rfl (by omega) (by first | decide | omega) rfl dX11_picture_125 ?_
                    refine g_iconst (pc := 126) (v := 1) C (by decide) dX11_picture_126 ?_
                    refine g_iadd (pc := 127) C dX11_picture_127 ?_
                    refine g_iast_n (pc := 128) C (j := (c - 5)) 1 [(mo, .inr (15, [.ref e0, .ref c1, .ref c2, .ref c3, .ref c4, .ref c5, .ref q1, .int (nI 0), .int (nI 0), .int 0, .int (nI 5), .int 0])), (q1, aI k 25 (upd (fun j9 => nI ((sb g c 4) j9)) (c - 5) (((fun j9 => nI ((sb g c 4) j9)) (c - 5)) + 1)))] rfl (by omega) (by first | decide | omega) rfl rfl dX11_picture_128 ?_
                    refine G.fn (fun j9 => nI ((ad (sb g c 4) (c - 5) 1) j9)) 1 [(mo, .inr (15, [.ref e0, .ref c1, .ref c2, .ref c3, .ref c4, .ref c5, .ref q1, .int (nI 0), .int (nI 0), .int 0, .int (nI 5), .int 0])), (q1, aI k 25 (fun j9 => nI ((ad (sb g c 4) (c - 5) 1) j9)))] rfl (fun j hj => by exact ad_step _ _ _ j) rfl ?_
                    refine g_iload (pc := 129) C 4 rfl dX11_picture_129 ?_
                    refine g_iload_n (pc := 131) C 1 rfl rfl dX11_picture_131 ?_
                    refine g_iadd (pc := 132) C dX11_picture_132 ?_
                    refine G.eqs (st' := [.int (nI (c + 5))]) (congrArg (β := List Value) (fun z9 => [.int z9]) (show (((nI c) + (nI 5)) : Int32) = (nI (c + 5)) from nI_add c 5)) ?_
                    refine g_aload_n (pc := 133) C 0 rfl rfl dX11_picture_133 ?_
                    refine g_get (pc := 134) C (T := TX11) inX11 0 rfl rfl 6 (by decide) q_293 rfl rfl dX11_picture_134 ?_
                    refine g_alen (pc := 137) C 1 rfl (t0 := 0) rfl (v := (nI 25)) rfl dX11_picture_137 ?_
                    refine g_icmp_ge (pc := 138) C 154 (by decide) dX11_picture_138 (fun c_138 => ?_) (fun c_138 => ?_)
                    · have k138 : 25 ≤ c + 5 := by rcases Nat.lt_or_ge (c + 5) (25) with q | q; exact absurd (show nI (25) ≤ nI (c + 5) from c_138) (nI_ge q (by omega)); exact q
                      refine g_iload (pc := 154) C 4 rfl dX11_picture_154 ?_
                      refine g_iload_n (pc := 156) C 1 rfl rfl dX11_picture_156 ?_
                      refine g_irem (pc := 157) C (by first | assumption | decide) dX11_picture_157 ?_
                      refine G.eqs (st' := [.int (nI (c % 5))]) (congrArg (β := List Value) (fun z9 => [.int z9]) (show (((nI c) - (nI c) / (nI 5) * (nI 5)) : Int32) = (nI (c % 5)) from pk_rem (by omega) (by decide) (by decide))) ?_
                      refine g_if_le (pc := 158) C 174 (by decide) dX11_picture_158 (fun c_158 => ?_) (fun c_158 => ?_)
                      · have k158 : c % 5 = 0 := by rcases Nat.eq_zero_or_pos (c % 5) with q | q; exact q; exact absurd c_158 (nI_nle q (by omega))
                        refine g_iload (pc := 174) C 4 rfl dX11_picture_174 ?_
                        refine g_iload_n (pc := 176) C 1 rfl rfl dX11_picture_176 ?_
                        refine g_irem (pc := 177) C (by first | assumption | decide) dX11_picture_177 ?_
                        refine G.eqs (st' := [.int (nI (c % 5))]) (congrArg (β := List Value) (fun z9 => [.int z9]) (show (((nI c) - (nI c) / (nI 5) * (nI 5)) : Int32) = (nI (c % 5)) from pk_rem (by omega) (by decide) (by decide))) ?_
                        refine g_iload_n (pc := 178) C 1 rfl rfl dX11_picture_178 ?_
                        refine g_iconst (pc := 179) (v := 1) C (by decide) dX11_picture_179 ?_
                        refine g_isub (pc := 180) C dX11_picture_180 ?_
                        refine G.eqs (st' := [.int (nI 4), .int (nI (c % 5))]) (congrArg (β := List Value) (fun z9 => [.int z9, .int (nI (c % 5))]) (show (((nI 5) - 1) : Int32) = (nI 4) from by decide)) ?_
                        refine g_icmp_ge (pc := 181) C 197 (by decide) dX11_picture_181 (fun c_181 => ?_) (fun c_181 => ?_)
                        · have k181 : 4 ≤ c % 5 := by rcases Nat.lt_or_ge (c % 5) (4) with q | q; exact absurd (show nI (4) ≤ nI (c % 5) from c_181) (nI_ge q (by omega)); exact q
                          refine g_iinc (pc := 197) (n := 1) (v := (nI ((sumN v (5 * 5)) + 1))) C 3 [(3, .int (nI ((sumN v (5 * 5)) + 1))), (0, .ref mo), (1, .int (nI 5)), (2, .int (nI m)), (4, .int (nI c))] rfl (nI_1 (sumN v (5 * 5))) dX11_picture_197 (by decide) rfl ?_
                          refine g_iconst (pc := 200) (v := (-1)) C (by decide) dX11_picture_200 ?_
                          refine g_istore (pc := 201) C [(4, .int (-1)), (3, .int (nI ((sumN v (5 * 5)) + 1))), (0, .ref mo), (1, .int (nI 5)), (2, .int (nI m))] dX11_picture_201 (by decide) rfl ?_
                          refine g_iinc (pc := 203) (n := 1) (v := ((-1) + 1)) C 0 [(4, .int ((-1) + 1)), (3, .int (nI ((sumN v (5 * 5)) + 1))), (0, .ref mo), (1, .int (nI 5)), (2, .int (nI m))] rfl rfl dX11_picture_203 (by decide) rfl ?_
                          refine g_goto (pc := 206) C 75 (by decide) dX11_picture_206 ?_
                          refine G.loc [2, 3, 4, 1, 0] (lv' := [(0, .ref mo), (1, .int (nI 5)), (2, .int (nI m)), (3, .int (nI ((sumN v (5 * 5)) + 1))), (4, .int ((-1) + 1))]) rfl ?_
                          refine G.fn (fun j9 => nI ((tpl 5 c 1 g) j9)) 1 [(mo, .inr (15, [.ref e0, .ref c1, .ref c2, .ref c3, .ref c4, .ref c5, .ref q1, .int (nI 0), .int (nI 0), .int 0, .int (nI 5), .int 0])), (q1, aI k 25 (fun j9 => nI ((tpl 5 c 1 g) j9)))] rfl (fun j hj => by first | rfl | (exact congrArg nI (by simp only [ad, sb, tpl, nbr]; repeat' (first | omega | split)))) rfl ?_
                          refine G.eql (lv' := [(0, .ref mo), (1, .int (nI 5)), (2, .int (nI m)), (3, .int (nI (sumN (adv v c 1) (5 * 5)))), (4, .int (nI 0))]) ((congrArg (β := List (Nat × Value)) (fun z9 => [(0, .ref mo), (1, .int (nI 5)), (2, .int (nI m)), (3, .int z9), (4, .int ((-1) + 1))]) (show ((nI ((sumN v (5 * 5)) + 1)) : Int32) = (nI (sumN (adv v c 1) (5 * 5))) from by first | rfl | decide | (rw [sumN_adv1 _ _ _ _ (show c < (5 * 5) by omega)]))).trans (congrArg (β := List (Nat × Value)) (fun z9 => [(0, .ref mo), (1, .int (nI 5)), (2, .int (nI m)), (3, .int (nI (sumN (adv v c 1) (5 * 5)))), (4, .int z9)]) (show (((-1) + 1) : Int32) = (nI 0) from by first | rfl | decide | (rw [sumN_adv1 _ _ _ _ (show c < (5 * 5) by omega)])))) ?_
                          exact ih_75 0 (tpl 5 c 1 g) (adv v c 1) (by first | exact hW | exact went_step (by decide) hW (show c < (5 * 5) by omega) (by omega)) (by omega) (by first | exact fun j hj => absurd hj (Nat.not_lt_zero j) | exact fun j hj => (by rcases Nat.lt_or_ge j c with q | q; exact hq j q; rw [show j = c by omega]; exact k93)) (by first | omega | (rw [sumN_adv1 _ _ _ _ (show c < (5 * 5) by omega)]; omega))
                        · have k181 : c % 5 < 4 := by rcases Nat.lt_or_ge (c % 5) (4) with q | q; exact q; exact absurd (show nI (4) ≤ nI (c % 5) from nI_le q (by omega)) c_181
                          refine g_aload_n (pc := 184) C 0 rfl rfl dX11_picture_184 ?_
                          refine g_get (pc := 185) C (T := TX11) inX11 0 rfl rfl 6 (by decide) q_293 rfl rfl dX11_picture_185 ?_
                          refine g_iload (pc := 188) C 4 rfl dX11_picture_188 ?_
                          refine g_iconst (pc := 190) (v := 1) C (by decide) dX11_picture_190 ?_
                          refine g_iadd (pc := 191) C dX11_picture_191 ?_
                          refine G.eqs (st' := [.int (nI (c + 1)), .ref q1]) (congrArg (β := List Value) (fun z9 => [.int z9, .ref q1]) (show (((nI c) + 1) : Int32) = (nI (c + 1)) from nI_1 c)) ?_
                          refine g_dup2 (pc := 192) C rfl rfl dX11_picture_192 ?_
                          refine g_iald_n (pc := 193) C (j := (c + 1)) 1 rfl (by omega) (by first | decide | omega) rfl dX11_picture_193 ?_
                          refine g_iconst (pc := 194) (v := 1) C (by decide) dX11_picture_194 ?_
                          refine g_iadd (pc := 195) C dX11_picture_195 ?_
                          refine g_iast_n (pc := 196) C (j := (c + 1)) 1 [(mo, .inr (15, [.ref e0, .ref c1, .ref c2, .ref c3, .ref c4, .ref c5, .ref q1, .int (nI 0), .int (nI 0), .int 0, .int (nI 5), .int 0])), (q1, aI k 25 (upd (fun j9 => nI ((ad (sb g c 4) (c - 5) 1) j9)) (c + 1) (((fun j9 => nI ((ad (sb g c 4) (c - 5) 1) j9)) (c + 1)) + 1)))] rfl (by omega) (by first | decide | omega) rfl rfl dX11_picture_196 ?_
                          refine G.fn (fun j9 => nI ((ad (ad (sb g c 4) (c - 5) 1) (c + 1) 1) j9)) 1 [(mo, .inr (15, [.ref e0, .ref c1, .ref c2, .ref c3, .ref c4, .ref c5, .ref q1, .int (nI 0), .int (nI 0), .int 0, .int (nI 5), .int 0])), (q1, aI k 25 (fun j9 => nI ((ad (ad (sb g c 4) (c - 5) 1) (c + 1) 1) j9)))] rfl (fun j hj => by exact ad_step _ _ _ j) rfl ?_
                          refine g_iinc (pc := 197) (n := 1) (v := (nI ((sumN v (5 * 5)) + 1))) C 3 [(3, .int (nI ((sumN v (5 * 5)) + 1))), (0, .ref mo), (1, .int (nI 5)), (2, .int (nI m)), (4, .int (nI c))] rfl (nI_1 (sumN v (5 * 5))) dX11_picture_197 (by decide) rfl ?_
                          refine g_iconst (pc := 200) (v := (-1)) C (by decide) dX11_picture_200 ?_
                          refine g_istore (pc := 201) C [(4, .int (-1)), (3, .int (nI ((sumN v (5 * 5)) + 1))), (0, .ref mo), (1, .int (nI 5)), (2, .int (nI m))] dX11_picture_201 (by decide) rfl ?_
                          refine g_iinc (pc := 203) (n := 1) (v := ((-1) + 1)) C 0 [(4, .int ((-1) + 1)), (3, .int (nI ((sumN v (5 * 5)) + 1))), (0, .ref mo), (1, .int (nI 5)), (2, .int (nI m))] rfl rfl dX11_picture_203 (by decide) rfl ?_
                          refine g_goto (pc := 206) C 75 (by decide) dX11_picture_206 ?_
                          refine G.loc [2, 3, 4, 1, 0] (lv' := [(0, .ref mo), (1, .int (nI 5)), (2, .int (nI m)), (3, .int (nI ((sumN v (5 * 5)) + 1))), (4, .int ((-1) + 1))]) rfl ?_
                          refine G.fn (fun j9 => nI ((tpl 5 c 1 g) j9)) 1 [(mo, .inr (15, [.ref e0, .ref c1, .ref c2, .ref c3, .ref c4, .ref c5, .ref q1, .int (nI 0), .int (nI 0), .int 0, .int (nI 5), .int 0])), (q1, aI k 25 (fun j9 => nI ((tpl 5 c 1 g) j9)))] rfl (fun j hj => by first | rfl | (exact congrArg nI (by simp only [ad, sb, tpl, nbr]; repeat' (first | omega | split)))) rfl ?_
                          refine G.eql (lv' := [(0, .ref mo), (1, .int (nI 5)), (2, .int (nI m)), (3, .int (nI (sumN (adv v c 1) (5 * 5)))), (4, .int (nI 0))]) ((congrArg (β := List (Nat × Value)) (fun z9 => [(0, .ref mo), (1, .int (nI 5)), (2, .int (nI m)), (3, .int z9), (4, .int ((-1) + 1))]) (show ((nI ((sumN v (5 * 5)) + 1)) : Int32) = (nI (sumN (adv v c 1) (5 * 5))) from by first | rfl | decide | (rw [sumN_adv1 _ _ _ _ (show c < (5 * 5) by omega)]))).trans (congrArg (β := List (Nat × Value)) (fun z9 => [(0, .ref mo), (1, .int (nI 5)), (2, .int (nI m)), (3, .int (nI (sumN (adv v c 1) (5 * 5)))), (4, .int z9)]) (show (((-1) + 1) : Int32) = (nI 0) from by first | rfl | decide | (rw [sumN_adv1 _ _ _ _ (show c < (5 * 5) by omega)])))) ?_
                          exact ih_75 0 (tpl 5 c 1 g) (adv v c 1) (by first | exact hW | exact went_step (by decide) hW (show c < (5 * 5) by omega) (by omega)) (by omega) (by first | exact fun j hj => absurd hj (Nat.not_lt_zero j) | exact fun j hj => (by rcases Nat.lt_or_ge j c with q | q; exact hq j q; rw [show j = c by omega]; exact k93)) (by first | omega | (rw [sumN_adv1 _ _ _ _ (show c < (5 * 5) by omega)]; omega))
                      · have k158 : 0 < c % 5 := by rcases Nat.eq_zero_or_pos (c % 5) with q | q; rw [q] at c_158; exact absurd (show nI 0 ≤ 0 by decide) c_158; exact q
                        refine g_aload_n (pc := 161) C 0 rfl rfl dX11_picture_161 ?_
                        refine g_get (pc := 162) C (T := TX11) inX11 0 rfl rfl 6 (by decide) q_293 rfl rfl dX11_picture_162 ?_
                        refine g_iload (pc := 165) C 4 rfl dX11_picture_165 ?_
                        refine g_iconst (pc := 167) (v := 1) C (by decide) dX11_picture_167 ?_
                        refine g_isub (pc := 168) C dX11_picture_168 ?_
                        refine G.eqs (st' := [.int (nI (c - 1)), .ref q1]) (congrArg (β := List Value) (fun z9 => [.int z9, .ref q1]) (show (((nI c) - 1) : Int32) = (nI (c - 1)) from by rw [show (1 : Int32) = nI 1 from rfl]; exact pk_sub (by omega))) ?_
                        refine g_dup2 (pc := 169) C rfl rfl dX11_picture_169 ?_
                        refine g_iald_n (pc := 170) C (j := (c - 1)) 1 rfl (by omega) (by first | decide | omega) rfl dX11_picture_170 ?_
                        refine g_iconst (pc := 171) (v := 1) C (by decide) dX11_picture_171 ?_
                        refine g_iadd (pc := 172) C dX11_picture_172 ?_
                        refine g_iast_n (pc := 173) C (j := (c - 1)) 1 [(mo, .inr (15, [.ref e0, .ref c1, .ref c2, .ref c3, .ref c4, .ref c5, .ref q1, .int (nI 0), .int (nI 0), .int 0, .int (nI 5), .int 0])), (q1, aI k 25 (upd (fun j9 => nI ((ad (sb g c 4) (c - 5) 1) j9)) (c - 1) (((fun j9 => nI ((ad (sb g c 4) (c - 5) 1) j9)) (c - 1)) + 1)))] rfl (by omega) (by first | decide | omega) rfl rfl dX11_picture_173 ?_
                        refine G.fn (fun j9 => nI ((ad (ad (sb g c 4) (c - 5) 1) (c - 1) 1) j9)) 1 [(mo, .inr (15, [.ref e0, .ref c1, .ref c2, .ref c3, .ref c4, .ref c5, .ref q1, .int (nI 0), .int (nI 0), .int 0, .int (nI 5), .int 0])), (q1, aI k 25 (fun j9 => nI ((ad (ad (sb g c 4) (c - 5) 1) (c - 1) 1) j9)))] rfl (fun j hj => by exact ad_step _ _ _ j) rfl ?_
                        refine g_iload (pc := 174) C 4 rfl dX11_picture_174 ?_
                        refine g_iload_n (pc := 176) C 1 rfl rfl dX11_picture_176 ?_
                        refine g_irem (pc := 177) C (by first | assumption | decide) dX11_picture_177 ?_
                        refine G.eqs (st' := [.int (nI (c % 5))]) (congrArg (β := List Value) (fun z9 => [.int z9]) (show (((nI c) - (nI c) / (nI 5) * (nI 5)) : Int32) = (nI (c % 5)) from pk_rem (by omega) (by decide) (by decide))) ?_
                        refine g_iload_n (pc := 178) C 1 rfl rfl dX11_picture_178 ?_
                        refine g_iconst (pc := 179) (v := 1) C (by decide) dX11_picture_179 ?_
                        refine g_isub (pc := 180) C dX11_picture_180 ?_
                        refine G.eqs (st' := [.int (nI 4), .int (nI (c % 5))]) (congrArg (β := List Value) (fun z9 => [.int z9, .int (nI (c % 5))]) (show (((nI 5) - 1) : Int32) = (nI 4) from by decide)) ?_
                        refine g_icmp_ge (pc := 181) C 197 (by decide) dX11_picture_181 (fun c_181 => ?_) (fun c_181 => ?_)
                        · have k181 : 4 ≤ c % 5 := by rcases Nat.lt_or_ge (c % 5) (4) with q | q; exact absurd (show nI (4) ≤ nI (c % 5) from c_181) (nI_ge q (by omega)); exact q
                          refine g_iinc (pc := 197) (n := 1) (v := (nI ((sumN v (5 * 5)) + 1))) C 3 [(3, .int (nI ((sumN v (5 * 5)) + 1))), (0, .ref mo), (1, .int (nI 5)), (2, .int (nI m)), (4, .int (nI c))] rfl (nI_1 (sumN v (5 * 5))) dX11_picture_197 (by decide) rfl ?_
                          refine g_iconst (pc := 200) (v := (-1)) C (by decide) dX11_picture_200 ?_
                          refine g_istore (pc := 201) C [(4, .int (-1)), (3, .int (nI ((sumN v (5 * 5)) + 1))), (0, .ref mo), (1, .int (nI 5)), (2, .int (nI m))] dX11_picture_201 (by decide) rfl ?_
                          refine g_iinc (pc := 203) (n := 1) (v := ((-1) + 1)) C 0 [(4, .int ((-1) + 1)), (3, .int (nI ((sumN v (5 * 5)) + 1))), (0, .ref mo), (1, .int (nI 5)), (2, .int (nI m))] rfl rfl dX11_picture_203 (by decide) rfl ?_
                          refine g_goto (pc := 206) C 75 (by decide) dX11_picture_206 ?_
                          refine G.loc [2, 3, 4, 1, 0] (lv' := [(0, .ref mo), (1, .int (nI 5)), (2, .int (nI m)), (3, .int (nI ((sumN v (5 * 5)) + 1))), (4, .int ((-1) + 1))]) rfl ?_
                          refine G.fn (fun j9 => nI ((tpl 5 c 1 g) j9)) 1 [(mo, .inr (15, [.ref e0, .ref c1, .ref c2, .ref c3, .ref c4, .ref c5, .ref q1, .int (nI 0), .int (nI 0), .int 0, .int (nI 5), .int 0])), (q1, aI k 25 (fun j9 => nI ((tpl 5 c 1 g) j9)))] rfl (fun j hj => by first | rfl | (exact congrArg nI (by simp only [ad, sb, tpl, nbr]; repeat' (first | omega | split)))) rfl ?_
                          refine G.eql (lv' := [(0, .ref mo), (1, .int (nI 5)), (2, .int (nI m)), (3, .int (nI (sumN (adv v c 1) (5 * 5)))), (4, .int (nI 0))]) ((congrArg (β := List (Nat × Value)) (fun z9 => [(0, .ref mo), (1, .int (nI 5)), (2, .int (nI m)), (3, .int z9), (4, .int ((-1) + 1))]) (show ((nI ((sumN v (5 * 5)) + 1)) : Int32) = (nI (sumN (adv v c 1) (5 * 5))) from by first | rfl | decide | (rw [sumN_adv1 _ _ _ _ (show c < (5 * 5) by omega)]))).trans (congrArg (β := List (Nat × Value)) (fun z9 => [(0, .ref mo), (1, .int (nI 5)), (2, .int (nI m)), (3, .int (nI (sumN (adv v c 1) (5 * 5)))), (4, .int z9)]) (show (((-1) + 1) : Int32) = (nI 0) from by first | rfl | decide | (rw [sumN_adv1 _ _ _ _ (show c < (5 * 5) by omega)])))) ?_
                          exact ih_75 0 (tpl 5 c 1 g) (adv v c 1) (by first | exact hW | exact went_step (by decide) hW (show c < (5 * 5) by omega) (by omega)) (by omega) (by first | exact fun j hj => absurd hj (Nat.not_lt_zero j) | exact fun j hj => (by rcases Nat.lt_or_ge j c with q | q; exact hq j q; rw [show j = c by omega]; exact k93)) (by first | omega | (rw [sumN_adv1 _ _ _ _ (show c < (5 * 5) by omega)]; omega))
                        · have k181 : c % 5 < 4 := by rcases Nat.lt_or_ge (c % 5) (4) with q | q; exact q; exact absurd (show nI (4) ≤ nI (c % 5) from nI_le q (by omega)) c_181
                          refine g_aload_n (pc := 184) C 0 rfl rfl dX11_picture_184 ?_
                          refine g_get (pc := 185) C (T := TX11) inX11 0 rfl rfl 6 (by decide) q_293 rfl rfl dX11_picture_185 ?_
                          refine g_iload (pc := 188) C 4 rfl dX11_picture_188 ?_
                          refine g_iconst (pc := 190) (v := 1) C (by decide) dX11_picture_190 ?_
                          refine g_iadd (pc := 191) C dX11_picture_191 ?_
                          refine G.eqs (st' := [.int (nI (c + 1)), .ref q1]) (congrArg (β := List Value) (fun z9 => [.int z9, .ref q1]) (show (((nI c) + 1) : Int32) = (nI (c + 1)) from nI_1 c)) ?_
                          refine g_dup2 (pc := 192) C rfl rfl dX11_picture_192 ?_
                          refine g_iald_n (pc := 193) C (j := (c + 1)) 1 rfl (by omega) (by first | decide | omega) rfl dX11_picture_193 ?_
                          refine g_iconst (pc := 194) (v := 1) C (by decide) dX11_picture_194 ?_
                          refine g_iadd (pc := 195) C dX11_picture_195 ?_
                          refine g_iast_n (pc := 196) C (j := (c + 1)) 1 [(mo, .inr (15, [.ref e0, .ref c1, .ref c2, .ref c3, .ref c4, .ref c5, .ref q1, .int (nI 0), .int (nI 0), .int 0, .int (nI 5), .int 0])), (q1, aI k 25 (upd (fun j9 => nI ((ad (ad (sb g c 4) (c - 5) 1) (c - 1) 1) j9)) (c + 1) (((fun j9 => nI ((ad (ad (sb g c 4) (c - 5) 1) (c - 1) 1) j9)) (c + 1)) + 1)))] rfl (by omega) (by first | decide | omega) rfl rfl dX11_picture_196 ?_
                          refine G.fn (fun j9 => nI ((ad (ad (ad (sb g c 4) (c - 5) 1) (c - 1) 1) (c + 1) 1) j9)) 1 [(mo, .inr (15, [.ref e0, .ref c1, .ref c2, .ref c3, .ref c4, .ref c5, .ref q1, .int (nI 0), .int (nI 0), .int 0, .int (nI 5), .int 0])), (q1, aI k 25 (fun j9 => nI ((ad (ad (ad (sb g c 4) (c - 5) 1) (c - 1) 1) (c + 1) 1) j9)))] rfl (fun j hj => by exact ad_step _ _ _ j) rfl ?_
                          refine g_iinc (pc := 197) (n := 1) (v := (nI ((sumN v (5 * 5)) + 1))) C 3 [(3, .int (nI ((sumN v (5 * 5)) + 1))), (0, .ref mo), (1, .int (nI 5)), (2, .int (nI m)), (4, .int (nI c))] rfl (nI_1 (sumN v (5 * 5))) dX11_picture_197 (by decide) rfl ?_
                          refine g_iconst (pc := 200) (v := (-1)) C (by decide) dX11_picture_200 ?_
                          refine g_istore (pc := 201) C [(4, .int (-1)), (3, .int (nI ((sumN v (5 * 5)) + 1))), (0, .ref mo), (1, .int (nI 5)), (2, .int (nI m))] dX11_picture_201 (by decide) rfl ?_
                          refine g_iinc (pc := 203) (n := 1) (v := ((-1) + 1)) C 0 [(4, .int ((-1) + 1)), (3, .int (nI ((sumN v (5 * 5)) + 1))), (0, .ref mo), (1, .int (nI 5)), (2, .int (nI m))] rfl rfl dX11_picture_203 (by decide) rfl ?_
                          refine g_goto (pc := 206) C 75 (by decide) dX11_picture_206 ?_
                          refine G.loc [2, 3, 4, 1, 0] (lv' := [(0, .ref mo), (1, .int (nI 5)), (2, .int (nI m)), (3, .int (nI ((sumN v (5 * 5)) + 1))), (4, .int ((-1) + 1))]) rfl ?_
                          refine G.fn (fun j9 => nI ((tpl 5 c 1 g) j9)) 1 [(mo, .inr (15, [.ref e0, .ref c1, .ref c2, .ref c3, .ref c4, .ref c5, .ref q1, .int (nI 0), .int (nI 0), .int 0, .int (nI 5), .int 0])), (q1, aI k 25 (fun j9 => nI ((tpl 5 c 1 g) j9)))] rfl (fun j hj => by first | rfl | (exact congrArg nI (by simp only [ad, sb, tpl, nbr]; repeat' (first | omega | split)))) rfl ?_
                          refine G.eql (lv' := [(0, .ref mo), (1, .int (nI 5)), (2, .int (nI m)), (3, .int (nI (sumN (adv v c 1) (5 * 5)))), (4, .int (nI 0))]) ((congrArg (β := List (Nat × Value)) (fun z9 => [(0, .ref mo), (1, .int (nI 5)), (2, .int (nI m)), (3, .int z9), (4, .int ((-1) + 1))]) (show ((nI ((sumN v (5 * 5)) + 1)) : Int32) = (nI (sumN (adv v c 1) (5 * 5))) from by first | rfl | decide | (rw [sumN_adv1 _ _ _ _ (show c < (5 * 5) by omega)]))).trans (congrArg (β := List (Nat × Value)) (fun z9 => [(0, .ref mo), (1, .int (nI 5)), (2, .int (nI m)), (3, .int (nI (sumN (adv v c 1) (5 * 5)))), (4, .int z9)]) (show (((-1) + 1) : Int32) = (nI 0) from by first | rfl | decide | (rw [sumN_adv1 _ _ _ _ (show c < (5 * 5) by omega)])))) ?_
                          exact ih_75 0 (tpl 5 c 1 g) (adv v c 1) (by first | exact hW | exact went_step (by decide) hW (show c < (5 * 5) by omega) (by omega)) (by omega) (by first | exact fun j hj => absurd hj (Nat.not_lt_zero j) | exact fun j hj => (by rcases Nat.lt_or_ge j c with q | q; exact hq j q; rw [show j = c by omega]; exact k93)) (by first | omega | (rw [sumN_adv1 _ _ _ _ (show c < (5 * 5) by omega)]; omega))
                    · have k138 : c + 5 < 25 := by rcases Nat.lt_or_ge (c + 5) (25) with q | q; exact q; exact absurd (show nI (25) ≤ nI (c + 5) from nI_le q (by omega)) c_138
                      refine g_aload_n (pc := 141) C 0 rfl rfl dX11_picture_141 ?_
                      refine g_get (pc := 142) C (T := TX11) inX11 0 rfl rfl 6 (by decide) q_293 rfl rfl dX11_picture_142 ?_
                      refine g_iload (pc := 145) C 4 rfl dX11_picture_145 ?_
                      refine g_iload_n (pc := 147) C 1 rfl rfl dX11_picture_147 ?_
                      refine g_iadd (pc := 148) C dX11_picture_148 ?_
                      refine G.eqs (st' := [.int (nI (c + 5)), .ref q1]) (congrArg (β := List Value) (fun z9 => [.int z9, .ref q1]) (show (((nI c) + (nI 5)) : Int32) = (nI (c + 5)) from nI_add c 5)) ?_
                      refine g_dup2 (pc := 149) C rfl rfl dX11_picture_149 ?_
                      refine g_iald_n (pc := 150) C (j := (c + 5)) 1 rfl (by omega) (by first | decide | omega) rfl dX11_picture_150 ?_
                      refine g_iconst (pc := 151) (v := 1) C (by decide) dX11_picture_151 ?_
                      refine g_iadd (pc := 152) C dX11_picture_152 ?_
                      refine g_iast_n (pc := 153) C (j := (c + 5)) 1 [(mo, .inr (15, [.ref e0, .ref c1, .ref c2, .ref c3, .ref c4, .ref c5, .ref q1, .int (nI 0), .int (nI 0), .int 0, .int (nI 5), .int 0])), (q1, aI k 25 (upd (fun j9 => nI ((ad (sb g c 4) (c - 5) 1) j9)) (c + 5) (((fun j9 => nI ((ad (sb g c 4) (c - 5) 1) j9)) (c + 5)) + 1)))] rfl (by omega) (by first | decide | omega) rfl rfl dX11_picture_153 ?_
                      refine G.fn (fun j9 => nI ((ad (ad (sb g c 4) (c - 5) 1) (c + 5) 1) j9)) 1 [(mo, .inr (15, [.ref e0, .ref c1, .ref c2, .ref c3, .ref c4, .ref c5, .ref q1, .int (nI 0), .int (nI 0), .int 0, .int (nI 5), .int 0])), (q1, aI k 25 (fun j9 => nI ((ad (ad (sb g c 4) (c - 5) 1) (c + 5) 1) j9)))] rfl (fun j hj => by exact ad_step _ _ _ j) rfl ?_
                      refine g_iload (pc := 154) C 4 rfl dX11_picture_154 ?_
                      refine g_iload_n (pc := 156) C 1 rfl rfl dX11_picture_156 ?_
                      refine g_irem (pc := 157) C (by first | assumption | decide) dX11_picture_157 ?_
                      refine G.eqs (st' := [.int (nI (c % 5))]) (congrArg (β := List Value) (fun z9 => [.int z9]) (show (((nI c) - (nI c) / (nI 5) * (nI 5)) : Int32) = (nI (c % 5)) from pk_rem (by omega) (by decide) (by decide))) ?_
                      refine g_if_le (pc := 158) C 174 (by decide) dX11_picture_158 (fun c_158 => ?_) (fun c_158 => ?_)
                      · have k158 : c % 5 = 0 := by rcases Nat.eq_zero_or_pos (c % 5) with q | q; exact q; exact absurd c_158 (nI_nle q (by omega))
                        refine g_iload (pc := 174) C 4 rfl dX11_picture_174 ?_
                        refine g_iload_n (pc := 176) C 1 rfl rfl dX11_picture_176 ?_
                        refine g_irem (pc := 177) C (by first | assumption | decide) dX11_picture_177 ?_
                        refine G.eqs (st' := [.int (nI (c % 5))]) (congrArg (β := List Value) (fun z9 => [.int z9]) (show (((nI c) - (nI c) / (nI 5) * (nI 5)) : Int32) = (nI (c % 5)) from pk_rem (by omega) (by decide) (by decide))) ?_
                        refine g_iload_n (pc := 178) C 1 rfl rfl dX11_picture_178 ?_
                        refine g_iconst (pc := 179) (v := 1) C (by decide) dX11_picture_179 ?_
                        refine g_isub (pc := 180) C dX11_picture_180 ?_
                        refine G.eqs (st' := [.int (nI 4), .int (nI (c % 5))]) (congrArg (β := List Value) (fun z9 => [.int z9, .int (nI (c % 5))]) (show (((nI 5) - 1) : Int32) = (nI 4) from by decide)) ?_
                        refine g_icmp_ge (pc := 181) C 197 (by decide) dX11_picture_181 (fun c_181 => ?_) (fun c_181 => ?_)
                        · have k181 : 4 ≤ c % 5 := by rcases Nat.lt_or_ge (c % 5) (4) with q | q; exact absurd (show nI (4) ≤ nI (c % 5) from c_181) (nI_ge q (by omega)); exact q
                          refine g_iinc (pc := 197) (n := 1) (v := (nI ((sumN v (5 * 5)) + 1))) C 3 [(3, .int (nI ((sumN v (5 * 5)) + 1))), (0, .ref mo), (1, .int (nI 5)), (2, .int (nI m)), (4, .int (nI c))] rfl (nI_1 (sumN v (5 * 5))) dX11_picture_197 (by decide) rfl ?_
                          refine g_iconst (pc := 200) (v := (-1)) C (by decide) dX11_picture_200 ?_
                          refine g_istore (pc := 201) C [(4, .int (-1)), (3, .int (nI ((sumN v (5 * 5)) + 1))), (0, .ref mo), (1, .int (nI 5)), (2, .int (nI m))] dX11_picture_201 (by decide) rfl ?_
                          refine g_iinc (pc := 203) (n := 1) (v := ((-1) + 1)) C 0 [(4, .int ((-1) + 1)), (3, .int (nI ((sumN v (5 * 5)) + 1))), (0, .ref mo), (1, .int (nI 5)), (2, .int (nI m))] rfl rfl dX11_picture_203 (by decide) rfl ?_
                          refine g_goto (pc := 206) C 75 (by decide) dX11_picture_206 ?_
                          refine G.loc [2, 3, 4, 1, 0] (lv' := [(0, .ref mo), (1, .int (nI 5)), (2, .int (nI m)), (3, .int (nI ((sumN v (5 * 5)) + 1))), (4, .int ((-1) + 1))]) rfl ?_
                          refine G.fn (fun j9 => nI ((tpl 5 c 1 g) j9)) 1 [(mo, .inr (15, [.ref e0, .ref c1, .ref c2, .ref c3, .ref c4, .ref c5, .ref q1, .int (nI 0), .int (nI 0), .int 0, .int (nI 5), .int 0])), (q1, aI k 25 (fun j9 => nI ((tpl 5 c 1 g) j9)))] rfl (fun j hj => by first | rfl | (exact congrArg nI (by simp only [ad, sb, tpl, nbr]; repeat' (first | omega | split)))) rfl ?_
                          refine G.eql (lv' := [(0, .ref mo), (1, .int (nI 5)), (2, .int (nI m)), (3, .int (nI (sumN (adv v c 1) (5 * 5)))), (4, .int (nI 0))]) ((congrArg (β := List (Nat × Value)) (fun z9 => [(0, .ref mo), (1, .int (nI 5)), (2, .int (nI m)), (3, .int z9), (4, .int ((-1) + 1))]) (show ((nI ((sumN v (5 * 5)) + 1)) : Int32) = (nI (sumN (adv v c 1) (5 * 5))) from by first | rfl | decide | (rw [sumN_adv1 _ _ _ _ (show c < (5 * 5) by omega)]))).trans (congrArg (β := List (Nat × Value)) (fun z9 => [(0, .ref mo), (1, .int (nI 5)), (2, .int (nI m)), (3, .int (nI (sumN (adv v c 1) (5 * 5)))), (4, .int z9)]) (show (((-1) + 1) : Int32) = (nI 0) from by first | rfl | decide | (rw [sumN_adv1 _ _ _ _ (show c < (5 * 5) by omega)])))) ?_
                          exact ih_75 0 (tpl 5 c 1 g) (adv v c 1) (by first | exact hW | exact went_step (by decide) hW (show c < (5 * 5) by omega) (by omega)) (by omega) (by first | exact fun j hj => absurd hj (Nat.not_lt_zero j) | exact fun j hj => (by rcases Nat.lt_or_ge j c with q | q; exact hq j q; rw [show j = c by omega]; exact k93)) (by first | omega | (rw [sumN_adv1 _ _ _ _ (show c < (5 * 5) by omega)]; omega))
                        · have k181 : c % 5 < 4 := by rcases Nat.lt_or_ge (c % 5) (4) with q | q; exact q; exact absurd (show nI (4) ≤ nI (c % 5) from nI_le q (by omega)) c_181
                          refine g_aload_n (pc := 184) C 0 rfl rfl dX11_picture_184 ?_
                          refine g_get (pc := 185) C (T := TX11) inX11 0 rfl rfl 6 (by decide) q_293 rfl rfl dX11_picture_185 ?_
                          refine g_iload (pc := 188) C 4 rfl dX11_picture_188 ?_
                          refine g_iconst (pc := 190) (v := 1) C (by decide) dX11_picture_190 ?_
                          refine g_iadd (pc := 191) C dX11_picture_191 ?_
                          refine G.eqs (st' := [.int (nI (c + 1)), .ref q1]) (congrArg (β := List Value) (fun z9 => [.int z9, .ref q1]) (show (((nI c) + 1) : Int32) = (nI (c + 1)) from nI_1 c)) ?_
                          refine g_dup2 (pc := 192) C rfl rfl dX11_picture_192 ?_
                          refine g_iald_n (pc := 193) C (j := (c + 1)) 1 rfl (by omega) (by first | decide | omega) rfl dX11_picture_193 ?_
                          refine g_iconst (pc := 194) (v := 1) C (by decide) dX11_picture_194 ?_
                          refine g_iadd (pc := 195) C dX11_picture_195 ?_
                          refine g_iast_n (pc := 196) C (j := (c + 1)) 1 [(mo, .inr (15, [.ref e0, .ref c1, .ref c2, .ref c3, .ref c4, .ref c5, .ref q1, .int (nI 0), .int (nI 0), .int 0, .int (nI 5), .int 0])), (q1, aI k 25 (upd (fun j9 => nI ((ad (ad (sb g c 4) (c - 5) 1) (c + 5) 1) j9)) (c + 1) (((fun j9 => nI ((ad (ad (sb g c 4) (c - 5) 1) (c + 5) 1) j9)) (c + 1)) + 1)))] rfl (by omega) (by first | decide | omega) rfl rfl dX11_picture_196 ?_
                          refine G.fn (fun j9 => nI ((ad (ad (ad (sb g c 4) (c - 5) 1) (c + 5) 1) (c + 1) 1) j9)) 1 [(mo, .inr (15, [.ref e0, .ref c1, .ref c2, .ref c3, .ref c4, .ref c5, .ref q1, .int (nI 0), .int (nI 0), .int 0, .int (nI 5), .int 0])), (q1, aI k 25 (fun j9 => nI ((ad (ad (ad (sb g c 4) (c - 5) 1) (c + 5) 1) (c + 1) 1) j9)))] rfl (fun j hj => by exact ad_step _ _ _ j) rfl ?_
                          refine g_iinc (pc := 197) (n := 1) (v := (nI ((sumN v (5 * 5)) + 1))) C 3 [(3, .int (nI ((sumN v (5 * 5)) + 1))), (0, .ref mo), (1, .int (nI 5)), (2, .int (nI m)), (4, .int (nI c))] rfl (nI_1 (sumN v (5 * 5))) dX11_picture_197 (by decide) rfl ?_
                          refine g_iconst (pc := 200) (v := (-1)) C (by decide) dX11_picture_200 ?_
                          refine g_istore (pc := 201) C [(4, .int (-1)), (3, .int (nI ((sumN v (5 * 5)) + 1))), (0, .ref mo), (1, .int (nI 5)), (2, .int (nI m))] dX11_picture_201 (by decide) rfl ?_
                          refine g_iinc (pc := 203) (n := 1) (v := ((-1) + 1)) C 0 [(4, .int ((-1) + 1)), (3, .int (nI ((sumN v (5 * 5)) + 1))), (0, .ref mo), (1, .int (nI 5)), (2, .int (nI m))] rfl rfl dX11_picture_203 (by decide) rfl ?_
                          refine g_goto (pc := 206) C 75 (by decide) dX11_picture_206 ?_
                          refine G.loc [2, 3, 4, 1, 0] (lv' := [(0, .ref mo), (1, .int (nI 5)), (2, .int (nI m)), (3, .int (nI ((sumN v (5 * 5)) + 1))), (4, .int ((-1) + 1))]) rfl ?_
                          refine G.fn (fun j9 => nI ((tpl 5 c 1 g) j9)) 1 [(mo, .inr (15, [.ref e0, .ref c1, .ref c2, .ref c3, .ref c4, .ref c5, .ref q1, .int (nI 0), .int (nI 0), .int 0, .int (nI 5), .int 0])), (q1, aI k 25 (fun j9 => nI ((tpl 5 c 1 g) j9)))] rfl (fun j hj => by first | rfl | (exact congrArg nI (by simp only [ad, sb, tpl, nbr]; repeat' (first | omega | split)))) rfl ?_
                          refine G.eql (lv' := [(0, .ref mo), (1, .int (nI 5)), (2, .int (nI m)), (3, .int (nI (sumN (adv v c 1) (5 * 5)))), (4, .int (nI 0))]) ((congrArg (β := List (Nat × Value)) (fun z9 => [(0, .ref mo), (1, .int (nI 5)), (2, .int (nI m)), (3, .int z9), (4, .int ((-1) + 1))]) (show ((nI ((sumN v (5 * 5)) + 1)) : Int32) = (nI (sumN (adv v c 1) (5 * 5))) from by first | rfl | decide | (rw [sumN_adv1 _ _ _ _ (show c < (5 * 5) by omega)]))).trans (congrArg (β := List (Nat × Value)) (fun z9 => [(0, .ref mo), (1, .int (nI 5)), (2, .int (nI m)), (3, .int (nI (sumN (adv v c 1) (5 * 5)))), (4, .int z9)]) (show (((-1) + 1) : Int32) = (nI 0) from by first | rfl | decide | (rw [sumN_adv1 _ _ _ _ (show c < (5 * 5) by omega)])))) ?_
                          exact ih_75 0 (tpl 5 c 1 g) (adv v c 1) (by first | exact hW | exact went_step (by decide) hW (show c < (5 * 5) by omega) (by omega)) (by omega) (by first | exact fun j hj => absurd hj (Nat.not_lt_zero j) | exact fun j hj => (by rcases Nat.lt_or_ge j c with q | q; exact hq j q; rw [show j = c by omega]; exact k93)) (by first | omega | (rw [sumN_adv1 _ _ _ _ (show c < (5 * 5) by omega)]; omega))
                      · have k158 : 0 < c % 5 := by rcases Nat.eq_zero_or_pos (c % 5) with q | q; rw [q] at c_158; exact absurd (show nI 0 ≤ 0 by decide) c_158; exact q
                        refine g_aload_n (pc := 161) C 0 rfl rfl dX11_picture_161 ?_
                        refine g_get (pc := 162) C (T := TX11) inX11 0 rfl rfl 6 (by decide) q_293 rfl rfl dX11_picture_162 ?_
                        refine g_iload (pc := 165) C 4 rfl dX11_picture_165 ?_
                        refine g_iconst (pc := 167) (v := 1) C (by decide) dX11_picture_167 ?_
                        refine g_isub (pc := 168) C dX11_picture_168 ?_
                        refine G.eqs (st' := [.int (nI (c - 1)), .ref q1]) (congrArg (β := List Value) (fun z9 => [.int z9, .ref q1]) (show (((nI c) - 1) : Int32) = (nI (c - 1)) from by rw [show (1 : Int32) = nI 1 from rfl]; exact pk_sub (by omega))) ?_
                        refine g_dup2 (pc := 169) C rfl rfl dX11_picture_169 ?_
                        refine g_iald_n (pc := 170) C (j := (c - 1)) 1 rfl (by omega) (by first | decide | omega) rfl dX11_picture_170 ?_
                        refine g_iconst (pc := 171) (v := 1) C (by decide) dX11_picture_171 ?_
                        refine g_iadd (pc := 172) C dX11_picture_172 ?_
                        refine g_iast_n (pc := 173) C (j := (c - 1)) 1 [(mo, .inr (15, [.ref e0, .ref c1, .ref c2, .ref c3, .ref c4, .ref c5, .ref q1, .int (nI 0), .int (nI 0), .int 0, .int (nI 5), .int 0])), (q1, aI k 25 (upd (fun j9 => nI ((ad (ad (sb g c 4) (c - 5) 1) (c + 5) 1) j9)) (c - 1) (((fun j9 => nI ((ad (ad (sb g c 4) (c - 5) 1) (c + 5) 1) j9)) (c - 1)) + 1)))] rfl (by omega) (by first | decide | omega) rfl rfl dX11_picture_173 ?_
                        refine G.fn (fun j9 => nI ((ad (ad (ad (sb g c 4) (c - 5) 1) (c + 5) 1) (c - 1) 1) j9)) 1 [(mo, .inr (15, [.ref e0, .ref c1, .ref c2, .ref c3, .ref c4, .ref c5, .ref q1, .int (nI 0), .int (nI 0), .int 0, .int (nI 5), .int 0])), (q1, aI k 25 (fun j9 => nI ((ad (ad (ad (sb g c 4) (c - 5) 1) (c + 5) 1) (c - 1) 1) j9)))] rfl (fun j hj => by exact ad_step _ _ _ j) rfl ?_
                        refine g_iload (pc := 174) C 4 rfl dX11_picture_174 ?_
                        refine g_iload_n (pc := 176) C 1 rfl rfl dX11_picture_176 ?_
                        refine g_irem (pc := 177) C (by first | assumption | decide) dX11_picture_177 ?_
                        refine G.eqs (st' := [.int (nI (c % 5))]) (congrArg (β := List Value) (fun z9 => [.int z9]) (show (((nI c) - (nI c) / (nI 5) * (nI 5)) : Int32) = (nI (c % 5)) from pk_rem (by omega) (by decide) (by decide))) ?_
                        refine g_iload_n (pc := 178) C 1 rfl rfl dX11_picture_178 ?_
                        refine g_iconst (pc := 179) (v := 1) C (by decide) dX11_picture_179 ?_
                        refine g_isub (pc := 180) C dX11_picture_180 ?_
                        refine G.eqs (st' := [.int (nI 4), .int (nI (c % 5))]) (congrArg (β := List Value) (fun z9 => [.int z9, .int (nI (c % 5))]) (show (((nI 5) - 1) : Int32) = (nI 4) from by decide)) ?_
                        refine g_icmp_ge (pc := 181) C 197 (by decide) dX11_picture_181 (fun c_181 => ?_) (fun c_181 => ?_)
                        · have k181 : 4 ≤ c % 5 := by rcases Nat.lt_or_ge (c % 5) (4) with q | q; exact absurd (show nI (4) ≤ nI (c % 5) from c_181) (nI_ge q (by omega)); exact q
                          refine g_iinc (pc := 197) (n := 1) (v := (nI ((sumN v (5 * 5)) + 1))) C 3 [(3, .int (nI ((sumN v (5 * 5)) + 1))), (0, .ref mo), (1, .int (nI 5)), (2, .int (nI m)), (4, .int (nI c))] rfl (nI_1 (sumN v (5 * 5))) dX11_picture_197 (by decide) rfl ?_
                          refine g_iconst (pc := 200) (v := (-1)) C (by decide) dX11_picture_200 ?_
                          refine g_istore (pc := 201) C [(4, .int (-1)), (3, .int (nI ((sumN v (5 * 5)) + 1))), (0, .ref mo), (1, .int (nI 5)), (2, .int (nI m))] dX11_picture_201 (by decide) rfl ?_
                          refine g_iinc (pc := 203) (n := 1) (v := ((-1) + 1)) C 0 [(4, .int ((-1) + 1)), (3, .int (nI ((sumN v (5 * 5)) + 1))), (0, .ref mo), (1, .int (nI 5)), (2, .int (nI m))] rfl rfl dX11_picture_203 (by decide) rfl ?_
                          refine g_goto (pc := 206) C 75 (by decide) dX11_picture_206 ?_
                          refine G.loc [2, 3, 4, 1, 0] (lv' := [(0, .ref mo), (1, .int (nI 5)), (2, .int (nI m)), (3, .int (nI ((sumN v (5 * 5)) + 1))), (4, .int ((-1) + 1))]) rfl ?_
                          refine G.fn (fun j9 => nI ((tpl 5 c 1 g) j9)) 1 [(mo, .inr (15, [.ref e0, .ref c1, .ref c2, .ref c3, .ref c4, .ref c5, .ref q1, .int (nI 0), .int (nI 0), .int 0, .int (nI 5), .int 0])), (q1, aI k 25 (fun j9 => nI ((tpl 5 c 1 g) j9)))] rfl (fun j hj => by first | rfl | (exact congrArg nI (by simp only [ad, sb, tpl, nbr]; repeat' (first | omega | split)))) rfl ?_
                          refine G.eql (lv' := [(0, .ref mo), (1, .int (nI 5)), (2, .int (nI m)), (3, .int (nI (sumN (adv v c 1) (5 * 5)))), (4, .int (nI 0))]) ((congrArg (β := List (Nat × Value)) (fun z9 => [(0, .ref mo), (1, .int (nI 5)), (2, .int (nI m)), (3, .int z9), (4, .int ((-1) + 1))]) (show ((nI ((sumN v (5 * 5)) + 1)) : Int32) = (nI (sumN (adv v c 1) (5 * 5))) from by first | rfl | decide | (rw [sumN_adv1 _ _ _ _ (show c < (5 * 5) by omega)]))).trans (congrArg (β := List (Nat × Value)) (fun z9 => [(0, .ref mo), (1, .int (nI 5)), (2, .int (nI m)), (3, .int (nI (sumN (adv v c 1) (5 * 5)))), (4, .int z9)]) (show (((-1) + 1) : Int32) = (nI 0) from by first | rfl | decide | (rw [sumN_adv1 _ _ _ _ (show c < (5 * 5) by omega)])))) ?_
                          exact ih_75 0 (tpl 5 c 1 g) (adv v c 1) (by first | exact hW | exact went_step (by decide) hW (show c < (5 * 5) by omega) (by omega)) (by omega) (by first | exact fun j hj => absurd hj (Nat.not_lt_zero j) | exact fun j hj => (by rcases Nat.lt_or_ge j c with q | q; exact hq j q; rw [show j = c by omega]; exact k93)) (by first | omega | (rw [sumN_adv1 _ _ _ _ (show c < (5 * 5) by omega)]; omega))
                        · have k181 : c % 5 < 4 := by rcases Nat.lt_or_ge (c % 5) (4) with q | q; exact q; exact absurd (show nI (4) ≤ nI (c % 5) from nI_le q (by omega)) c_181
                          refine g_aload_n (pc := 184) C 0 rfl rfl dX11_picture_184 ?_
                          refine g_get (pc := 185) C (T := TX11) inX11 0 rfl rfl 6 (by decide) q_293 rfl rfl dX11_picture_185 ?_
                          refine g_iload (pc := 188) C 4 rfl dX11_picture_188 ?_
                          refine g_iconst (pc := 190) (v := 1) C (by decide) dX11_picture_190 ?_
                          refine g_iadd (pc := 191) C dX11_picture_191 ?_
                          refine G.eqs (st' := [.int (nI (c + 1)), .ref q1]) (congrArg (β := List Value) (fun z9 => [.int z9, .ref q1]) (show (((nI c) + 1) : Int32) = (nI (c + 1)) from nI_1 c)) ?_
                          refine g_dup2 (pc := 192) C rfl rfl dX11_picture_192 ?_
                          refine g_iald_n (pc := 193) C (j := (c + 1)) 1 rfl (by omega) (by first | decide | omega) rfl dX11_picture_193 ?_
                          refine g_iconst (pc := 194) (v := 1) C (by decide) dX11_picture_194 ?_
                          refine g_iadd (pc := 195) C dX11_picture_195 ?_
                          refine g_iast_n (pc := 196) C (j := (c + 1)) 1 [(mo, .inr (15, [.ref e0, .ref c1, .ref c2, .ref c3, .ref c4, .ref c5, .ref q1, .int (nI 0), .int (nI 0), .int 0, .int (nI 5), .int 0])), (q1, aI k 25 (upd (fun j9 => nI ((ad (ad (ad (sb g c 4) (c - 5) 1) (c + 5) 1) (c - 1) 1) j9)) (c + 1) (((fun j9 => nI ((ad (ad (ad (sb g c 4) (c - 5) 1) (c + 5) 1) (c - 1) 1) j9)) (c + 1)) + 1)))] rfl (by omega) (by first | decide | omega) rfl rfl dX11_picture_196 ?_
                          refine G.fn (fun j9 => nI ((ad (ad (ad (ad (sb g c 4) (c - 5) 1) (c + 5) 1) (c - 1) 1) (c + 1) 1) j9)) 1 [(mo, .inr (15, [.ref e0, .ref c1, .ref c2, .ref c3, .ref c4, .ref c5, .ref q1, .int (nI 0), .int (nI 0), .int 0, .int (nI 5), .int 0])), (q1, aI k 25 (fun j9 => nI ((ad (ad (ad (ad (sb g c 4) (c - 5) 1) (c + 5) 1) (c - 1) 1) (c + 1) 1) j9)))] rfl (fun j hj => by exact ad_step _ _ _ j) rfl ?_
                          refine g_iinc (pc := 197) (n := 1) (v := (nI ((sumN v (5 * 5)) + 1))) C 3 [(3, .int (nI ((sumN v (5 * 5)) + 1))), (0, .ref mo), (1, .int (nI 5)), (2, .int (nI m)), (4, .int (nI c))] rfl (nI_1 (sumN v (5 * 5))) dX11_picture_197 (by decide) rfl ?_
                          refine g_iconst (pc := 200) (v := (-1)) C (by decide) dX11_picture_200 ?_
                          refine g_istore (pc := 201) C [(4, .int (-1)), (3, .int (nI ((sumN v (5 * 5)) + 1))), (0, .ref mo), (1, .int (nI 5)), (2, .int (nI m))] dX11_picture_201 (by decide) rfl ?_
                          refine g_iinc (pc := 203) (n := 1) (v := ((-1) + 1)) C 0 [(4, .int ((-1) + 1)), (3, .int (nI ((sumN v (5 * 5)) + 1))), (0, .ref mo), (1, .int (nI 5)), (2, .int (nI m))] rfl rfl dX11_picture_203 (by decide) rfl ?_
                          refine g_goto (pc := 206) C 75 (by decide) dX11_picture_206 ?_
                          refine G.loc [2, 3, 4, 1, 0] (lv' := [(0, .ref mo), (1, .int (nI 5)), (2, .int (nI m)), (3, .int (nI ((sumN v (5 * 5)) + 1))), (4, .int ((-1) + 1))]) rfl ?_
                          refine G.fn (fun j9 => nI ((tpl 5 c 1 g) j9)) 1 [(mo, .inr (15, [.ref e0, .ref c1, .ref c2, .ref c3, .ref c4, .ref c5, .ref q1, .int (nI 0), .int (nI 0), .int 0, .int (nI 5), .int 0])), (q1, aI k 25 (fun j9 => nI ((tpl 5 c 1 g) j9)))] rfl (fun j hj => by first | rfl | (exact congrArg nI (by simp only [ad, sb, tpl, nbr]; repeat' (first | omega | split)))) rfl ?_
                          refine G.eql (lv' := [(0, .ref mo), (1, .int (nI 5)), (2, .int (nI m)), (3, .int (nI (sumN (adv v c 1) (5 * 5)))), (4, .int (nI 0))]) ((congrArg (β := List (Nat × Value)) (fun z9 => [(0, .ref mo), (1, .int (nI 5)), (2, .int (nI m)), (3, .int z9), (4, .int ((-1) + 1))]) (show ((nI ((sumN v (5 * 5)) + 1)) : Int32) = (nI (sumN (adv v c 1) (5 * 5))) from by first | rfl | decide | (rw [sumN_adv1 _ _ _ _ (show c < (5 * 5) by omega)]))).trans (congrArg (β := List (Nat × Value)) (fun z9 => [(0, .ref mo), (1, .int (nI 5)), (2, .int (nI m)), (3, .int (nI (sumN (adv v c 1) (5 * 5)))), (4, .int z9)]) (show (((-1) + 1) : Int32) = (nI 0) from by first | rfl | decide | (rw [sumN_adv1 _ _ _ _ (show c < (5 * 5) by omega)])))) ?_
                          exact ih_75 0 (tpl 5 c 1 g) (adv v c 1) (by first | exact hW | exact went_step (by decide) hW (show c < (5 * 5) by omega) (by omega)) (by omega) (by first | exact fun j hj => absurd hj (Nat.not_lt_zero j) | exact fun j hj => (by rcases Nat.lt_or_ge j c with q | q; exact hq j q; rw [show j = c by omega]; exact k93)) (by first | omega | (rw [sumN_adv1 _ _ _ _ (show c < (5 * 5) by omega)]; omega))
                · have k93 : g c < 4 := by rcases Nat.lt_or_ge (g c) (4) with q | q; exact q; exact absurd (show nI (4) ≤ nI (g c) from nI_le q (by omega)) c_93
                  refine g_goto (pc := 96) C 203 (by decide) dX11_picture_96 ?_
                  refine g_iinc (pc := 203) (n := 1) (v := (nI (c + 1))) C 4 [(4, .int (nI (c + 1))), (0, .ref mo), (1, .int (nI 5)), (2, .int (nI m)), (3, .int (nI (sumN v (5 * 5))))] rfl (nI_1 c) dX11_picture_203 (by decide) rfl ?_
                  refine g_goto (pc := 206) C 75 (by decide) dX11_picture_206 ?_
                  refine G.loc [1, 2, 3, 4, 0] (lv' := [(0, .ref mo), (1, .int (nI 5)), (2, .int (nI m)), (3, .int (nI (sumN v (5 * 5)))), (4, .int (nI (c + 1)))]) rfl ?_
                  exact ih_75 (c + 1) g v (by first | exact hW | exact went_step (by decide) hW (show c < (5 * 5) by omega) (by omega)) (by omega) (by first | exact fun j hj => absurd hj (Nat.not_lt_zero j) | exact fun j hj => (by rcases Nat.lt_or_ge j c with q | q; exact hq j q; rw [show j = c by omega]; exact k93)) (by first | omega | (rw [sumN_adv1 _ _ _ _ (show c < (5 * 5) by omega)]; omega))
          refine G.loc [2, 3, 4, 1, 0] (lv' := [(0, .ref mo), (1, .int (nI 5)), (2, .int (nI m)), (3, .int 0), (4, .int 0)]) rfl ?_
          refine G.eql (lv' := [(0, .ref mo), (1, .int (nI 5)), (2, .int (nI m)), (3, .int (nI (sumN (fun _ => 0) (5 * 5)))), (4, .int (nI 0))]) ((congrArg (β := List (Nat × Value)) (fun z9 => [(0, .ref mo), (1, .int (nI 5)), (2, .int (nI m)), (3, .int z9), (4, .int 0)]) (show (0 : Int32) = (nI (sumN (fun _ => 0) (5 * 5))) from by first | rfl | exact nI_0.symm | (rw [sumN_0]; exact nI_0.symm))).trans (congrArg (β := List (Nat × Value)) (fun z9 => [(0, .ref mo), (1, .int (nI 5)), (2, .int (nI m)), (3, .int (nI (sumN (fun _ => 0) (5 * 5)))), (4, .int z9)]) (show (0 : Int32) = (nI 0) from by first | rfl | exact nI_0.symm | (rw [sumN_0]; exact nI_0.symm)))) ?_
          exact key_75 ((713 - sumN (fun _ => 0) (5 * 5)) * 26 + (25 - 0) + 1) 0 (fm 5 m) (fun _ => 0) (went_0 5 _) (by omega) (fun j hj => absurd hj (Nat.not_lt_zero j)) (Nat.lt_succ_self _)
        · exact absurd c_40 (by decide)
      · exact absurd c_25 (by decide)
set_option maxRecDepth 100000 in
set_option maxHeartbeats 4000000 in
theorem c_X11_picture_s7 {l : Launch} {D : va_G} {k : Nat → ClassId} (mo : Nat) (e0 : Nat) (c1 : Nat) (c2 : Nat) (c3 : Nat) (c4 : Nat) (c5 : Nat) (th : Int32) (m : Nat) (hmm : m ≤ 300) : CM l D k yX11_picture cX11_picture 5 (some .int)  1 22 [.ref mo, .int (nI 7), .int (nI m)] [(mo, .inr (15, [.ref e0, .ref c1, .ref c2, .ref c3, .ref c4, .ref c5, .null, .int (nI 0), .int (nI 0), .int 0, .int 0, .int th]))] (fun rv9 w9 => rv9 = (some (.int (nI (picN 7 (fm 7 m))))) ∧ ∃ (qq : Nat) (gg : Nat → Int32), w9 = [(mo, .inr (15, [.ref e0, .ref c1, .ref c2, .ref c3, .ref c4, .ref c5, .ref qq, .int (nI 0), .int (nI 0), .int 0, .int (nI 7), .int 0])), (qq, aI k 49 gg)]) 1 49 1 := by
  refine CM.of (lv0 := [(0, .ref mo), (1, .int (nI 7)), (2, .int (nI m))]) (by decide +kernel) (Nat.le_of_ble_eq_true rfl) rfl ?_
  intro p9 e9 s9 m9 bl9 me9 co9 C hr hlk hin had
  refine g_aload_n (pc := 0) C 0 rfl rfl dX11_picture_0 ?_
  refine g_iload_n (pc := 1) C 1 rfl rfl dX11_picture_1 ?_
  refine g_iconst (pc := 2) (v := 3) C (by decide) dX11_picture_2 ?_
  refine g_bipush (pc := 3) (v := 9) C (by decide) dX11_picture_3 ?_
  refine g_callS (pc := 5) (cells := 0) (slots := 0) (g := 0) (As := [.int (nI 7), .int 3, .int 9]) (st := [.ref mo]) (b := 0) C (nA := 3) rfl (c_X11_in (nI 7) 3 9 ) q_266 q_267 q_265 q_264 (by decide +kernel) dX11_picture_5 ⟨Nat.le_of_ble_eq_true rfl, Nat.le_of_ble_eq_true rfl⟩ [] [0] rfl (wr := [(mo, .inr (15, [.ref e0, .ref c1, .ref c2, .ref c3, .ref c4, .ref c5, .null, .int (nI 0), .int (nI 0), .int 0, .int 0, .int th]))]) rfl (by decide) (by decide) (by decide) (Nat.le_of_ble_eq_true rfl) ⟨Nat.le_of_ble_eq_true rfl, Nat.le_of_ble_eq_true rfl⟩ (fun rv w1 h1 => ?_)
  obtain ⟨rfl, rfl⟩ := h1
  refine G.aft [0] (ws' := [(mo, .inr (15, [.ref e0, .ref c1, .ref c2, .ref c3, .ref c4, .ref c5, .null, .int (nI 0), .int (nI 0), .int 0, .int 0, .int th]))]) (st' := [.int (bI (inR (nI 7) 3 9)), .ref mo]) (cells' := 0) (slots' := 0) (g' := 0) (by decide) rfl rfl rfl rfl rfl ?_
  refine G.eqs (st' := [.int 1, .ref mo]) (congrArg (β := List Value) (fun z9 => [.int z9, .ref mo]) (show ((bI (inR (nI 7) 3 9)) : Int32) = 1 from by decide)) ?_
  refine g_if_eq (pc := 8) C 28 (by decide) dX11_picture_8 (fun c_8 => ?_) (fun c_8 => ?_)
  · exact absurd c_8 (by decide)
  · refine g_iload_n (pc := 11) C 1 rfl rfl dX11_picture_11 ?_
    refine g_iconst (pc := 12) (v := 2) C (by decide) dX11_picture_12 ?_
    refine g_irem (pc := 13) C (by first | assumption | decide) dX11_picture_13 ?_
    refine G.eqs (st' := [.int 1, .ref mo]) (congrArg (β := List Value) (fun z9 => [.int z9, .ref mo]) (show (((nI 7) - (nI 7) / 2 * 2) : Int32) = 1 from by decide)) ?_
    refine g_if_eq (pc := 14) C 28 (by decide) dX11_picture_14 (fun c_14 => ?_) (fun c_14 => ?_)
    · exact absurd c_14 (by decide)
    · refine g_iload_n (pc := 17) C 2 rfl rfl dX11_picture_17 ?_
      refine g_iconst (pc := 18) (v := 0) C (by decide) dX11_picture_18 ?_
      refine g_sipush (pc := 19) (v := 300) C (by decide) dX11_picture_19 ?_
      refine g_callS (pc := 22) (cells := 0) (slots := 0) (g := 0) (As := [.int (nI m), .int 0, .int 300]) (st := [.ref mo]) (b := 0) C (nA := 3) rfl (c_X11_in (nI m) 0 300 ) q_266 q_267 q_265 q_264 (by decide +kernel) dX11_picture_22 ⟨Nat.le_of_ble_eq_true rfl, Nat.le_of_ble_eq_true rfl⟩ [] [0] rfl (wr := [(mo, .inr (15, [.ref e0, .ref c1, .ref c2, .ref c3, .ref c4, .ref c5, .null, .int (nI 0), .int (nI 0), .int 0, .int 0, .int th]))]) rfl (by decide) (by decide) (by decide) (Nat.le_of_ble_eq_true rfl) ⟨Nat.le_of_ble_eq_true rfl, Nat.le_of_ble_eq_true rfl⟩ (fun rv w1 h1 => ?_)
      obtain ⟨rfl, rfl⟩ := h1
      refine G.aft [0] (ws' := [(mo, .inr (15, [.ref e0, .ref c1, .ref c2, .ref c3, .ref c4, .ref c5, .null, .int (nI 0), .int (nI 0), .int 0, .int 0, .int th]))]) (st' := [.int (bI (inR (nI m) 0 300)), .ref mo]) (cells' := 0) (slots' := 0) (g' := 0) (by decide) rfl rfl rfl rfl rfl ?_
      refine G.eqs (st' := [.int 1, .ref mo]) (congrArg (β := List Value) (fun z9 => [.int z9, .ref mo]) (show ((bI (inR (nI m) 0 300)) : Int32) = 1 from by rw [inR_m hmm]; rfl)) ?_
      refine g_if_ne (pc := 25) C 32 (by decide) dX11_picture_25 (fun c_25 => ?_) (fun c_25 => ?_)
      · refine g_iconst (pc := 32) (v := 0) C (by decide) dX11_picture_32 ?_
        refine g_put (pc := 33) C (T := TX11) inX11 0 rfl rfl 11 (by decide) q_262 rfl tyX11 tyX11_ok nmX11 rfl [(mo, .inr (15, [.ref e0, .ref c1, .ref c2, .ref c3, .ref c4, .ref c5, .null, .int (nI 0), .int (nI 0), .int 0, .int 0, .int 0]))] (tyX11_ok 11 (by decide)) rfl (by rfl) (Nat.le_of_ble_eq_true rfl) rfl dX11_picture_33 ?_
        refine g_aload_n (pc := 36) C 0 rfl rfl dX11_picture_36 ?_
        refine g_get (pc := 37) C (T := TX11) inX11 0 rfl rfl 11 (by decide) q_262 rfl rfl dX11_picture_37 ?_
        refine g_if_le (pc := 40) C 45 (by decide) dX11_picture_40 (fun c_40 => ?_) (fun c_40 => ?_)
        · refine g_aload_n (pc := 45) C 0 rfl rfl dX11_picture_45 ?_
          refine g_iload_n (pc := 46) C 1 rfl rfl dX11_picture_46 ?_
          refine g_put (pc := 47) C (T := TX11) inX11 0 rfl rfl 10 (by decide) q_303 rfl tyX11 tyX11_ok nmX11 rfl [(mo, .inr (15, [.ref e0, .ref c1, .ref c2, .ref c3, .ref c4, .ref c5, .null, .int (nI 0), .int (nI 0), .int 0, .int (nI 7), .int 0]))] (tyX11_ok 10 (by decide)) rfl (by rfl) (Nat.le_of_ble_eq_true rfl) rfl dX11_picture_47 ?_
          refine g_aload_n (pc := 50) C 0 rfl rfl dX11_picture_50 ?_
          refine g_iload_n (pc := 51) C 1 rfl rfl dX11_picture_51 ?_
          refine g_iload_n (pc := 52) C 1 rfl rfl dX11_picture_52 ?_
          refine g_imul (pc := 53) C dX11_picture_53 ?_
          refine g_newI (pc := 54) (cells := 0) (slots := 0) (g := 0) C 49 q_4 (by decide) (by decide) (Nat.le_of_ble_eq_true rfl) (Nat.le_of_ble_eq_true rfl) (Nat.le_of_ble_eq_true rfl) dX11_picture_54 (fun q1 => ?_)
          refine G.eqw (ws' := [(mo, .inr (15, [.ref e0, .ref c1, .ref c2, .ref c3, .ref c4, .ref c5, .null, .int (nI 0), .int (nI 0), .int 0, .int (nI 7), .int 0])), (q1, aI k 49 (fun _ => 0))]) rfl ?_
          refine g_put (pc := 56) C (T := TX11) inX11 0 rfl rfl 6 (by decide) q_293 rfl tyX11 tyX11_ok nmX11 rfl [(mo, .inr (15, [.ref e0, .ref c1, .ref c2, .ref c3, .ref c4, .ref c5, .ref q1, .int (nI 0), .int (nI 0), .int 0, .int (nI 7), .int 0])), (q1, aI k 49 (fun _ => 0))] (tyX11_ok 6 (by decide)) rfl rfl (Nat.le_of_ble_eq_true rfl) rfl dX11_picture_56 ?_
          refine g_aload_n (pc := 59) C 0 rfl rfl dX11_picture_59 ?_
          refine g_get (pc := 60) C (T := TX11) inX11 0 rfl rfl 6 (by decide) q_293 rfl rfl dX11_picture_60 ?_
          refine g_iload_n (pc := 63) C 1 rfl rfl dX11_picture_63 ?_
          refine g_iload_n (pc := 64) C 1 rfl rfl dX11_picture_64 ?_
          refine g_imul (pc := 65) C dX11_picture_65 ?_
          refine g_iconst (pc := 66) (v := 2) C (by decide) dX11_picture_66 ?_
          refine g_idiv (pc := 67) C (by first | assumption | decide) dX11_picture_67 ?_
          refine G.eqs (st' := [.int (nI 24), .ref q1]) (congrArg (β := List Value) (fun z9 => [.int z9, .ref q1]) (show ((((nI 7) * (nI 7)) / 2) : Int32) = (nI 24) from by decide)) ?_
          refine g_iload_n (pc := 68) C 2 rfl rfl dX11_picture_68 ?_
          refine g_iast_n (pc := 69) C (j := 24) 1 [(mo, .inr (15, [.ref e0, .ref c1, .ref c2, .ref c3, .ref c4, .ref c5, .ref q1, .int (nI 0), .int (nI 0), .int 0, .int (nI 7), .int 0])), (q1, aI k 49 (upd (fun _ => 0) 24 (nI m)))] rfl (by omega) (by first | decide | omega) rfl rfl dX11_picture_69 ?_
          refine G.fn (fun j9 => nI ((fm 7 m) j9)) 1 [(mo, .inr (15, [.ref e0, .ref c1, .ref c2, .ref c3, .ref c4, .ref c5, .ref q1, .int (nI 0), .int (nI 0), .int 0, .int (nI 7), .int 0])), (q1, aI k 49 (fun j9 => nI ((fm 7 m) j9)))] rfl (fun j hj => by { show upd (fun _ => 0) 24 (nI m) j = nI (if j = 24 then m else 0); unfold upd; by_cases h : j = 24 <;> simp [h, nI_0] }) rfl ?_
          refine g_iconst (pc := 70) (v := 0) C (by decide) dX11_picture_70 ?_
          refine g_istore_n (pc := 71) C [(3, .int 0), (0, .ref mo), (1, .int (nI 7)), (2, .int (nI m))] rfl dX11_picture_71 (by decide) rfl ?_
          refine g_iconst (pc := 72) (v := 0) C (by decide) dX11_picture_72 ?_
          refine g_istore (pc := 73) C [(4, .int 0), (3, .int 0), (0, .ref mo), (1, .int (nI 7)), (2, .int (nI m))] dX11_picture_73 (by decide) rfl ?_
          have key_75 : ∀ (fuel : Nat) (c : Nat) (g : Nat → Nat) (v : Nat → Nat), Went 7 (fm 7 m) g v → c ≤ 49 → (∀ j, j < c → g j < 4) → (1130 - sumN v (7 * 7)) * 50 + (49 - c) < fuel → G p9 l e9 { frames := 1, cells := 1, slots := 49, locals := 22 } s9 m9 ([.ref mo, .int (nI 7), .int (nI m)] : List Value).toArray bl9 me9 co9 D 5 (va_A [(mo, .inr (15, [.ref e0, .ref c1, .ref c2, .ref c3, .ref c4, .ref c5, .null, .int (nI 0), .int (nI 0), .int 0, .int 0, .int th]))] s9.heap.size) (QM bl9 D ([.ref mo, .int (nI 7), .int (nI m)] : List Value).toArray s9 [(mo, .inr (15, [.ref e0, .ref c1, .ref c2, .ref c3, .ref c4, .ref c5, .null, .int (nI 0), .int (nI 0), .int 0, .int 0, .int th]))] (fun rv9 w9 => rv9 = (some (.int (nI (picN 7 (fm 7 m))))) ∧ ∃ (qq : Nat) (gg : Nat → Int32), w9 = [(mo, .inr (15, [.ref e0, .ref c1, .ref c2, .ref c3, .ref c4, .ref c5, .ref qq, .int (nI 0), .int (nI 0), .int 0, .int (nI 7), .int 0])), (qq, aI k 49 gg)]) 1 49 1) [(mo, .inr (15, [.ref e0, .ref c1, .ref c2, .ref c3, .ref c4, .ref c5, .ref q1, .int (nI 0), .int (nI 0), .int 0, .int (nI 7), .int 0])), (q1, aI k 49 (fun j9 => nI (g j9)))] [(0, .ref mo), (1, .int (nI 7)), (2, .int (nI m)), (3, .int (nI (sumN v (7 * 7)))), (4, .int (nI c))] 1 49 1 75 [] := by
            intro fuel
            induction fuel with
            | zero => intro c g v hW hc hq hm; exact absurd hm (Nat.not_lt_zero _)
            | succ fuel ih =>
              intro c g v hW hc hq hm
              have ih_75 := ih
              have hsum := went_sum hmm hW pw7_s
              rw [pw7_n] at hsum
              have hbnd := went_bnd hmm hW pw7_s pw7_b
              refine g_iload (pc := 75) C 4 rfl dX11_picture_75 ?_
              refine g_aload_n (pc := 77) C 0 rfl rfl dX11_picture_77 ?_
              refine g_get (pc := 78) C (T := TX11) inX11 0 rfl rfl 6 (by decide) q_293 rfl rfl dX11_picture_78 ?_
              refine g_alen (pc := 81) C 1 rfl (t0 := 0) rfl (v := (nI 49)) rfl dX11_picture_81 ?_
              refine g_icmp_ge (pc := 82) C 209 (by decide) dX11_picture_82 (fun c_82 => ?_) (fun c_82 => ?_)
              · have k82 : 49 ≤ c := by rcases Nat.lt_or_ge (c) (49) with q | q; exact absurd (show nI (49) ≤ nI (c) from c_82) (nI_ge q (by omega)); exact q
                refine g_iload_n (pc := 209) C 3 rfl rfl dX11_picture_209 ?_
                refine G.eqs (st' := [.int (nI (picN 7 (fm 7 m)))]) (congrArg (fun z9 => [Value.int z9]) (show ((nI (sumN v (7 * 7))) : Int32) = (nI (picN 7 (fm 7 m))) from by first | rfl | (rw [picN_eq hW (fun j hj => hq j (by omega))]))) ?_
                exact g_iret (pc := 210) C hr hlk (by first | decide | omega) (by first | decide | omega) (by first | decide | omega) dX11_picture_210 ⟨rfl, q1, (fun j9 => nI (g j9)), rfl⟩
              · have k82 : c < 49 := by rcases Nat.lt_or_ge (c) (49) with q | q; exact q; exact absurd (show nI (49) ≤ nI (c) from nI_le q (by omega)) c_82
                have hbc := hbnd c (show c < (7 * 7) by omega)
                refine g_aload_n (pc := 85) C 0 rfl rfl dX11_picture_85 ?_
                refine g_get (pc := 86) C (T := TX11) inX11 0 rfl rfl 6 (by decide) q_293 rfl rfl dX11_picture_86 ?_
                refine g_iload (pc := 89) C 4 rfl dX11_picture_89 ?_
                refine g_iald_n (pc := 91) C (j := c) 1 rfl (by omega) (by first | decide | omega) rfl dX11_picture_91 ?_
                refine G.eqs (st' := [.int (nI (g c))]) (congrArg (β := List Value) (fun z9 => [.int z9]) (show (((fun j9 => nI (g j9)) c) : Int32) = (nI (g c)) from rfl)) ?_
                refine g_iconst (pc := 92) (v := 4) C (by decide) dX11_picture_92 ?_
                refine g_icmp_ge (pc := 93) C 99 (by decide) dX11_picture_93 (fun c_93 => ?_) (fun c_93 => ?_)
                · have k93 : 4 ≤ g c := by rcases Nat.lt_or_ge (g c) (4) with q | q; exact absurd (show nI (4) ≤ nI (g c) from c_93) (nI_ge q (by omega)); exact q
                  have hsum2 := went_sum hmm (went_step (by decide) hW (show c < (7 * 7) by omega) (show 4 * 1 ≤ g c by omega)) pw7_s
                  rw [pw7_n, sumN_adv1 _ _ _ _ (show c < (7 * 7) by omega)] at hsum2
                  refine g_aload_n (pc := 99) C 0 rfl rfl dX11_picture_99 ?_
                  refine g_get (pc := 100) C (T := TX11) inX11 0 rfl rfl 6 (by decide) q_293 rfl rfl dX11_picture_100 ?_
                  refine g_iload (pc := 103) C 4 rfl dX11_picture_103 ?_
                  refine g_dup2 (pc := 105) C rfl rfl dX11_picture_105 ?_
                  refine g_iald_n (pc := 106) C (j := c) 1 rfl (by omega) (by first | decide | omega) rfl dX11_picture_106 ?_
                  refine G.eqs (st' := [.int (nI (g c)), .int (nI c), .ref q1]) (congrArg (β := List Value) (fun z9 => [.int z9, .int (nI c), .ref q1]) (show (((fun j9 => nI (g j9)) c) : Int32) = (nI (g c)) from rfl)) ?_
                  refine g_iconst (pc := 107) (v := 4) C (by decide) dX11_picture_107 ?_
                  refine g_isub (pc := 108) C dX11_picture_108 ?_
                  refine G.eqs (st' := [.int (nI (g c - 4)), .int (nI c), .ref q1]) (congrArg (β := List Value) (fun z9 => [.int z9, .int (nI c), .ref q1]) (show (((nI (g c)) - 4) : Int32) = (nI (g c - 4)) from by rw [show (4 : Int32) = nI 4 from rfl]; exact pk_sub (by omega))) ?_
                  refine g_iast_n (pc := 109) C (j := c) 1 [(mo, .inr (15, [.ref e0, .ref c1, .ref c2, .ref c3, .ref c4, .ref c5, .ref q1, .int (nI 0), .int (nI 0), .int 0, .int (nI 7), .int 0])), (q1, aI k 49 (upd (fun j9 => nI (g j9)) c (nI (g c - 4))))] rfl (by omega) (by first | decide | omega) rfl rfl dX11_picture_109 ?_
                  refine G.fn (fun j9 => nI ((sb g c 4) j9)) 1 [(mo, .inr (15, [.ref e0, .ref c1, .ref c2, .ref c3, .ref c4, .ref c5, .ref q1, .int (nI 0), .int (nI 0), .int 0, .int (nI 7), .int 0])), (q1, aI k 49 (fun j9 => nI ((sb g c 4) j9)))] rfl (fun j hj => by exact sb_put _ _ _ j) rfl ?_
                  refine g_iload (pc := 110) C 4 rfl dX11_picture_110 ?_
                  refine g_iload_n (pc := 112) C 1 rfl rfl dX11_picture_112 ?_
                  refine g_icmp_lt (pc := 113) C 129 (by decide) dX11_picture_113 (fun c_113 => ?_) (fun c_113 => ?_)
                  · have k113 : c < 7 := by rcases Nat.lt_or_ge (c) (7) with q | q; exact q; exact absurd c_113 (nI_nlt q (by omega))
                    refine g_iload (pc := 129) C 4 rfl dX11_picture_129 ?_
                    refine g_iload_n (pc := 131) C 1 rfl rfl dX11_picture_131 ?_
                    refine g_iadd (pc := 132) C dX11_picture_132 ?_
                    refine G.eqs (st' := [.int (nI (c + 7))]) (congrArg (β := List Value) (fun z9 => [.int z9]) (show (((nI c) + (nI 7)) : Int32) = (nI (c + 7)) from nI_add c 7)) ?_
                    refine g_aload_n (pc := 133) C 0 rfl rfl dX11_picture_133 ?_
                    refine g_get (pc := 134) C (T := TX11) inX11 0 rfl rfl 6 (by decide) q_293 rfl rfl dX11_picture_134 ?_
                    refine g_alen (pc := 137) C 1 rfl (t0 := 0) rfl (v := (nI 49)) rfl dX11_picture_137 ?_
                    refine g_icmp_ge (pc := 138) C 154 (by decide) dX11_picture_138 (fun c_138 => ?_) (fun c_138 => ?_)
                    · have k138 : 49 ≤ c + 7 := by rcases Nat.lt_or_ge (c + 7) (49) with q | q; exact absurd (show nI (49) ≤ nI (c + 7) from c_138) (nI_ge q (by omega)); exact q
                      refine g_iload (pc := 154) C 4 rfl dX11_picture_154 ?_
                      refine g_iload_n (pc := 156) C 1 rfl rfl dX11_picture_156 ?_
                      refine g_irem (pc := 157) C (by first | assumption | decide) dX11_picture_157 ?_
                      refine G.eqs (st' := [.int (nI (c % 7))]) (congrArg (β := List Value) (fun z9 => [.int z9]) (show (((nI c) - (nI c) / (nI 7) * (nI 7)) : Int32) = (nI (c % 7)) from pk_rem (by omega) (by decide) (by decide))) ?_
                      refine g_if_le (pc := 158) C 174 (by decide) dX11_picture_158 (fun c_158 => ?_) (fun c_158 => ?_)
                      · have k158 : c % 7 = 0 := by rcases Nat.eq_zero_or_pos (c % 7) with q | q; exact q; exact absurd c_158 (nI_nle q (by omega))
                        refine g_iload (pc := 174) C 4 rfl dX11_picture_174 ?_
                        refine g_iload_n (pc := 176) C 1 rfl rfl dX11_picture_176 ?_
                        refine g_irem (pc := 177) C (by first | assumption | decide) dX11_picture_177 ?_
                        refine G.eqs (st' := [.int (nI (c % 7))]) (congrArg (β := List Value) (fun z9 => [.int z9]) (show (((nI c) - (nI c) / (nI 7) * (nI 7)) : Int32) = (nI (c % 7)) from pk_rem (by omega) (by decide) (by decide))) ?_
                        refine g_iload_n (pc := 178) C 1 rfl rfl dX11_picture_178 ?_
                        refine g_iconst (pc := 179) (v := 1) C (by decide) dX11_picture_179 ?_
                        refine g_isub (pc := 180) C dX11_picture_180 ?_
                        refine G.eqs (st' := [.int (nI 6), .int (nI (c % 7))]) (congrArg (β := List Value) (fun z9 => [.int z9, .int (nI (c % 7))]) (show (((nI 7) - 1) : Int32) = (nI 6) from by decide)) ?_
                        refine g_icmp_ge (pc := 181) C 197 (by decide) dX11_picture_181 (fun c_181 => ?_) (fun c_181 => ?_)
                        · have k181 : 6 ≤ c % 7 := by rcases Nat.lt_or_ge (c % 7) (6) with q | q; exact absurd (show nI (6) ≤ nI (c % 7) from c_181) (nI_ge q (by omega)); exact q
                          refine g_iinc (pc := 197) (n := 1) (v := (nI ((sumN v (7 * 7)) + 1))) C 3 [(3, .int (nI ((sumN v (7 * 7)) + 1))), (0, .ref mo), (1, .int (nI 7)), (2, .int (nI m)), (4, .int (nI c))] rfl (nI_1 (sumN v (7 * 7))) dX11_picture_197 (by decide) rfl ?_
                          refine g_iconst (pc := 200) (v := (-1)) C (by decide) dX11_picture_200 ?_
                          refine g_istore (pc := 201) C [(4, .int (-1)), (3, .int (nI ((sumN v (7 * 7)) + 1))), (0, .ref mo), (1, .int (nI 7)), (2, .int (nI m))] dX11_picture_201 (by decide) rfl ?_
                          refine g_iinc (pc := 203) (n := 1) (v := ((-1) + 1)) C 0 [(4, .int ((-1) + 1)), (3, .int (nI ((sumN v (7 * 7)) + 1))), (0, .ref mo), (1, .int (nI 7)), (2, .int (nI m))] rfl rfl dX11_picture_203 (by decide) rfl ?_
                          refine g_goto (pc := 206) C 75 (by decide) dX11_picture_206 ?_
                          refine G.loc [2, 3, 4, 1, 0] (lv' := [(0, .ref mo), (1, .int (nI 7)), (2, .int (nI m)), (3, .int (nI ((sumN v (7 * 7)) + 1))), (4, .int ((-1) + 1))]) rfl ?_
                          refine G.fn (fun j9 => nI ((tpl 7 c 1 g) j9)) 1 [(mo, .inr (15, [.ref e0, .ref c1, .ref c2, .ref c3, .ref c4, .ref c5, .ref q1, .int (nI 0), .int (nI 0), .int 0, .int (nI 7), .int 0])), (q1, aI k 49 (fun j9 => nI ((tpl 7 c 1 g) j9)))] rfl (fun j hj => by first | rfl | (exact congrArg nI (by simp only [ad, sb, tpl, nbr]; repeat' (first | omega | split)))) rfl ?_
                          refine G.eql (lv' := [(0, .ref mo), (1, .int (nI 7)), (2, .int (nI m)), (3, .int (nI (sumN (adv v c 1) (7 * 7)))), (4, .int (nI 0))]) ((congrArg (β := List (Nat × Value)) (fun z9 => [(0, .ref mo), (1, .int (nI 7)), (2, .int (nI m)), (3, .int z9), (4, .int ((-1) + 1))]) (show ((nI ((sumN v (7 * 7)) + 1)) : Int32) = (nI (sumN (adv v c 1) (7 * 7))) from by first | rfl | decide | (rw [sumN_adv1 _ _ _ _ (show c < (7 * 7) by omega)]))).trans (congrArg (β := List (Nat × Value)) (fun z9 => [(0, .ref mo), (1, .int (nI 7)), (2, .int (nI m)), (3, .int (nI (sumN (adv v c 1) (7 * 7)))), (4, .int z9)]) (show (((-1) + 1) : Int32) = (nI 0) from by first | rfl | decide | (rw [sumN_adv1 _ _ _ _ (show c < (7 * 7) by omega)])))) ?_
                          exact ih_75 0 (tpl 7 c 1 g) (adv v c 1) (by first | exact hW | exact went_step (by decide) hW (show c < (7 * 7) by omega) (by omega)) (by omega) (by first | exact fun j hj => absurd hj (Nat.not_lt_zero j) | exact fun j hj => (by rcases Nat.lt_or_ge j c with q | q; exact hq j q; rw [show j = c by omega]; exact k93)) (by first | omega | (rw [sumN_adv1 _ _ _ _ (show c < (7 * 7) by omega)]; omega))
                        · have k181 : c % 7 < 6 := by rcases Nat.lt_or_ge (c % 7) (6) with q | q; exact q; exact absurd (show nI (6) ≤ nI (c % 7) from nI_le q (by omega)) c_181
                          refine g_aload_n (pc := 184) C 0 rfl rfl dX11_picture_184 ?_
                          refine g_get (pc := 185) C (T := TX11) inX11 0 rfl rfl 6 (by decide) q_293 rfl rfl dX11_picture_185 ?_
                          refine g_iload (pc := 188) C 4 rfl dX11_picture_188 ?_
                          refine g_iconst (pc := 190) (v := 1) C (by decide) dX11_picture_190 ?_
                          refine g_iadd (pc := 191) C dX11_picture_191 ?_
                          refine G.eqs (st' := [.int (nI (c + 1)), .ref q1]) (congrArg (β := List Value) (fun z9 => [.int z9, .ref q1]) (show (((nI c) + 1) : Int32) = (nI (c + 1)) from nI_1 c)) ?_
                          refine g_dup2 (pc := 192) C rfl rfl dX11_picture_192 ?_
                          refine g_iald_n (pc := 193) C (j := (c + 1)) 1 rfl (by omega) (by first | decide | omega) rfl dX11_picture_193 ?_
                          refine g_iconst (pc := 194) (v := 1) C (by decide) dX11_picture_194 ?_
                          refine g_iadd (pc := 195) C dX11_picture_195 ?_
                          refine g_iast_n (pc := 196) C (j := (c + 1)) 1 [(mo, .inr (15, [.ref e0, .ref c1, .ref c2, .ref c3, .ref c4, .ref c5, .ref q1, .int (nI 0), .int (nI 0), .int 0, .int (nI 7), .int 0])), (q1, aI k 49 (upd (fun j9 => nI ((sb g c 4) j9)) (c + 1) (((fun j9 => nI ((sb g c 4) j9)) (c + 1)) + 1)))] rfl (by omega) (by first | decide | omega) rfl rfl dX11_picture_196 ?_
                          refine G.fn (fun j9 => nI ((ad (sb g c 4) (c + 1) 1) j9)) 1 [(mo, .inr (15, [.ref e0, .ref c1, .ref c2, .ref c3, .ref c4, .ref c5, .ref q1, .int (nI 0), .int (nI 0), .int 0, .int (nI 7), .int 0])), (q1, aI k 49 (fun j9 => nI ((ad (sb g c 4) (c + 1) 1) j9)))] rfl (fun j hj => by exact ad_step _ _ _ j) rfl ?_
                          refine g_iinc (pc := 197) (n := 1) (v := (nI ((sumN v (7 * 7)) + 1))) C 3 [(3, .int (nI ((sumN v (7 * 7)) + 1))), (0, .ref mo), (1, .int (nI 7)), (2, .int (nI m)), (4, .int (nI c))] rfl (nI_1 (sumN v (7 * 7))) dX11_picture_197 (by decide) rfl ?_
                          refine g_iconst (pc := 200) (v := (-1)) C (by decide) dX11_picture_200 ?_
                          refine g_istore (pc := 201) C [(4, .int (-1)), (3, .int (nI ((sumN v (7 * 7)) + 1))), (0, .ref mo), (1, .int (nI 7)), (2, .int (nI m))] dX11_picture_201 (by decide) rfl ?_
                          refine g_iinc (pc := 203) (n := 1) (v := ((-1) + 1)) C 0 [(4, .int ((-1) + 1)), (3, .int (nI ((sumN v (7 * 7)) + 1))), (0, .ref mo), (1, .int (nI 7)), (2, .int (nI m))] rfl rfl dX11_picture_203 (by decide) rfl ?_
                          refine g_goto (pc := 206) C 75 (by decide) dX11_picture_206 ?_
                          refine G.loc [2, 3, 4, 1, 0] (lv' := [(0, .ref mo), (1, .int (nI 7)), (2, .int (nI m)), (3, .int (nI ((sumN v (7 * 7)) + 1))), (4, .int ((-1) + 1))]) rfl ?_
                          refine G.fn (fun j9 => nI ((tpl 7 c 1 g) j9)) 1 [(mo, .inr (15, [.ref e0, .ref c1, .ref c2, .ref c3, .ref c4, .ref c5, .ref q1, .int (nI 0), .int (nI 0), .int 0, .int (nI 7), .int 0])), (q1, aI k 49 (fun j9 => nI ((tpl 7 c 1 g) j9)))] rfl (fun j hj => by first | rfl | (exact congrArg nI (by simp only [ad, sb, tpl, nbr]; repeat' (first | omega | split)))) rfl ?_
                          refine G.eql (lv' := [(0, .ref mo), (1, .int (nI 7)), (2, .int (nI m)), (3, .int (nI (sumN (adv v c 1) (7 * 7)))), (4, .int (nI 0))]) ((congrArg (β := List (Nat × Value)) (fun z9 => [(0, .ref mo), (1, .int (nI 7)), (2, .int (nI m)), (3, .int z9), (4, .int ((-1) + 1))]) (show ((nI ((sumN v (7 * 7)) + 1)) : Int32) = (nI (sumN (adv v c 1) (7 * 7))) from by first | rfl | decide | (rw [sumN_adv1 _ _ _ _ (show c < (7 * 7) by omega)]))).trans (congrArg (β := List (Nat × Value)) (fun z9 => [(0, .ref mo), (1, .int (nI 7)), (2, .int (nI m)), (3, .int (nI (sumN (adv v c 1) (7 * 7)))), (4, .int z9)]) (show (((-1) + 1) : Int32) = (nI 0) from by first | rfl | decide | (rw [sumN_adv1 _ _ _ _ (show c < (7 * 7) by omega)])))) ?_
                          exact ih_75 0 (tpl 7 c 1 g) (adv v c 1) (by first | exact hW | exact went_step (by decide) hW (show c < (7 * 7) by omega) (by omega)) (by omega) (by first | exact fun j hj => absurd hj (Nat.not_lt_zero j) | exact fun j hj => (by rcases Nat.lt_or_ge j c with q | q; exact hq j q; rw [show j = c by omega]; exact k93)) (by first | omega | (rw [sumN_adv1 _ _ _ _ (show c < (7 * 7) by omega)]; omega))
                      · have k158 : 0 < c % 7 := by rcases Nat.eq_zero_or_pos (c % 7) with q | q; rw [q] at c_158; exact absurd (show nI 0 ≤ 0 by decide) c_158; exact q
                        refine g_aload_n (pc := 161) C 0 rfl rfl dX11_picture_161 ?_
                        refine g_get (pc := 162) C (T := TX11) inX11 0 rfl rfl 6 (by decide) q_293 rfl rfl dX11_picture_162 ?_
                        refine g_iload (pc := 165) C 4 rfl dX11_picture_165 ?_
                        refine g_iconst (pc := 167) (v := 1) C (by decide) dX11_picture_167 ?_
                        refine g_isub (pc := 168) C dX11_picture_168 ?_
                        refine G.eqs (st' := [.int (nI (c - 1)), .ref q1]) (congrArg (β := List Value) (fun z9 => [.int z9, .ref q1]) (show (((nI c) - 1) : Int32) = (nI (c - 1)) from by rw [show (1 : Int32) = nI 1 from rfl]; exact pk_sub (by omega))) ?_
                        refine g_dup2 (pc := 169) C rfl rfl dX11_picture_169 ?_
                        refine g_iald_n (pc := 170) C (j := (c - 1)) 1 rfl (by omega) (by first | decide | omega) rfl dX11_picture_170 ?_
                        refine g_iconst (pc := 171) (v := 1) C (by decide) dX11_picture_171 ?_
                        refine g_iadd (pc := 172) C dX11_picture_172 ?_
                        refine g_iast_n (pc := 173) C (j := (c - 1)) 1 [(mo, .inr (15, [.ref e0, .ref c1, .ref c2, .ref c3, .ref c4, .ref c5, .ref q1, .int (nI 0), .int (nI 0), .int 0, .int (nI 7), .int 0])), (q1, aI k 49 (upd (fun j9 => nI ((sb g c 4) j9)) (c - 1) (((fun j9 => nI ((sb g c 4) j9)) (c - 1)) + 1)))] rfl (by omega) (by first | decide | omega) rfl rfl dX11_picture_173 ?_
                        refine G.fn (fun j9 => nI ((ad (sb g c 4) (c - 1) 1) j9)) 1 [(mo, .inr (15, [.ref e0, .ref c1, .ref c2, .ref c3, .ref c4, .ref c5, .ref q1, .int (nI 0), .int (nI 0), .int 0, .int (nI 7), .int 0])), (q1, aI k 49 (fun j9 => nI ((ad (sb g c 4) (c - 1) 1) j9)))] rfl (fun j hj => by exact ad_step _ _ _ j) rfl ?_
                        refine g_iload (pc := 174) C 4 rfl dX11_picture_174 ?_
                        refine g_iload_n (pc := 176) C 1 rfl rfl dX11_picture_176 ?_
                        refine g_irem (pc := 177) C (by first | assumption | decide) dX11_picture_177 ?_
                        refine G.eqs (st' := [.int (nI (c % 7))]) (congrArg (β := List Value) (fun z9 => [.int z9]) (show (((nI c) - (nI c) / (nI 7) * (nI 7)) : Int32) = (nI (c % 7)) from pk_rem (by omega) (by decide) (by decide))) ?_
                        refine g_iload_n (pc := 178) C 1 rfl rfl dX11_picture_178 ?_
                        refine g_iconst (pc := 179) (v := 1) C (by decide) dX11_picture_179 ?_
                        refine g_isub (pc := 180) C dX11_picture_180 ?_
                        refine G.eqs (st' := [.int (nI 6), .int (nI (c % 7))]) (congrArg (β := List Value) (fun z9 => [.int z9, .int (nI (c % 7))]) (show (((nI 7) - 1) : Int32) = (nI 6) from by decide)) ?_
                        refine g_icmp_ge (pc := 181) C 197 (by decide) dX11_picture_181 (fun c_181 => ?_) (fun c_181 => ?_)
                        · have k181 : 6 ≤ c % 7 := by rcases Nat.lt_or_ge (c % 7) (6) with q | q; exact absurd (show nI (6) ≤ nI (c % 7) from c_181) (nI_ge q (by omega)); exact q
                          refine g_iinc (pc := 197) (n := 1) (v := (nI ((sumN v (7 * 7)) + 1))) C 3 [(3, .int (nI ((sumN v (7 * 7)) + 1))), (0, .ref mo), (1, .int (nI 7)), (2, .int (nI m)), (4, .int (nI c))] rfl (nI_1 (sumN v (7 * 7))) dX11_picture_197 (by decide) rfl ?_
                          refine g_iconst (pc := 200) (v := (-1)) C (by decide) dX11_picture_200 ?_
                          refine g_istore (pc := 201) C [(4, .int (-1)), (3, .int (nI ((sumN v (7 * 7)) + 1))), (0, .ref mo), (1, .int (nI 7)), (2, .int (nI m))] dX11_picture_201 (by decide) rfl ?_
                          refine g_iinc (pc := 203) (n := 1) (v := ((-1) + 1)) C 0 [(4, .int ((-1) + 1)), (3, .int (nI ((sumN v (7 * 7)) + 1))), (0, .ref mo), (1, .int (nI 7)), (2, .int (nI m))] rfl rfl dX11_picture_203 (by decide) rfl ?_
                          refine g_goto (pc := 206) C 75 (by decide) dX11_picture_206 ?_
                          refine G.loc [2, 3, 4, 1, 0] (lv' := [(0, .ref mo), (1, .int (nI 7)), (2, .int (nI m)), (3, .int (nI ((sumN v (7 * 7)) + 1))), (4, .int ((-1) + 1))]) rfl ?_
                          refine G.fn (fun j9 => nI ((tpl 7 c 1 g) j9)) 1 [(mo, .inr (15, [.ref e0, .ref c1, .ref c2, .ref c3, .ref c4, .ref c5, .ref q1, .int (nI 0), .int (nI 0), .int 0, .int (nI 7), .int 0])), (q1, aI k 49 (fun j9 => nI ((tpl 7 c 1 g) j9)))] rfl (fun j hj => by first | rfl | (exact congrArg nI (by simp only [ad, sb, tpl, nbr]; repeat' (first | omega | split)))) rfl ?_
                          refine G.eql (lv' := [(0, .ref mo), (1, .int (nI 7)), (2, .int (nI m)), (3, .int (nI (sumN (adv v c 1) (7 * 7)))), (4, .int (nI 0))]) ((congrArg (β := List (Nat × Value)) (fun z9 => [(0, .ref mo), (1, .int (nI 7)), (2, .int (nI m)), (3, .int z9), (4, .int ((-1) + 1))]) (show ((nI ((sumN v (7 * 7)) + 1)) : Int32) = (nI (sumN (adv v c 1) (7 * 7))) from by first | rfl | decide | (rw [sumN_adv1 _ _ _ _ (show c < (7 * 7) by omega)]))).trans (congrArg (β := List (Nat × Value)) (fun z9 => [(0, .ref mo), (1, .int (nI 7)), (2, .int (nI m)), (3, .int (nI (sumN (adv v c 1) (7 * 7)))), (4, .int z9)]) (show (((-1) + 1) : Int32) = (nI 0) from by first | rfl | decide | (rw [sumN_adv1 _ _ _ _ (show c < (7 * 7) by omega)])))) ?_
                          exact ih_75 0 (tpl 7 c 1 g) (adv v c 1) (by first | exact hW | exact went_step (by decide) hW (show c < (7 * 7) by omega) (by omega)) (by omega) (by first | exact fun j hj => absurd hj (Nat.not_lt_zero j) | exact fun j hj => (by rcases Nat.lt_or_ge j c with q | q; exact hq j q; rw [show j = c by omega]; exact k93)) (by first | omega | (rw [sumN_adv1 _ _ _ _ (show c < (7 * 7) by omega)]; omega))
                        · have k181 : c % 7 < 6 := by rcases Nat.lt_or_ge (c % 7) (6) with q | q; exact q; exact absurd (show nI (6) ≤ nI (c % 7) from nI_le q (by omega)) c_181
                          refine g_aload_n (pc := 184) C 0 rfl rfl dX11_picture_184 ?_
                          refine g_get (pc := 185) C (T := TX11) inX11 0 rfl rfl 6 (by decide) q_293 rfl rfl dX11_picture_185 ?_
                          refine g_iload (pc := 188) C 4 rfl dX11_picture_188 ?_
                          refine g_iconst (pc := 190) (v := 1) C (by decide) dX11_picture_190 ?_
                          refine g_iadd (pc := 191) C dX11_picture_191 ?_
                          refine G.eqs (st' := [.int (nI (c + 1)), .ref q1]) (congrArg (β := List Value) (fun z9 => [.int z9, .ref q1]) (show (((nI c) + 1) : Int32) = (nI (c + 1)) from nI_1 c)) ?_
                          refine g_dup2 (pc := 192) C rfl rfl dX11_picture_192 ?_
                          refine g_iald_n (pc := 193) C (j := (c + 1)) 1 rfl (by omega) (by first | decide | omega) rfl dX11_picture_193 ?_
                          refine g_iconst (pc := 194) (v := 1) C (by decide) dX11_picture_194 ?_
                          refine g_iadd (pc := 195) C dX11_picture_195 ?_
                          refine g_iast_n (pc := 196) C (j := (c + 1)) 1 [(mo, .inr (15, [.ref e0, .ref c1, .ref c2, .ref c3, .ref c4, .ref c5, .ref q1, .int (nI 0), .int (nI 0), .int 0, .int (nI 7), .int 0])), (q1, aI k 49 (upd (fun j9 => nI ((ad (sb g c 4) (c - 1) 1) j9)) (c + 1) (((fun j9 => nI ((ad (sb g c 4) (c - 1) 1) j9)) (c + 1)) + 1)))] rfl (by omega) (by first | decide | omega) rfl rfl dX11_picture_196 ?_
                          refine G.fn (fun j9 => nI ((ad (ad (sb g c 4) (c - 1) 1) (c + 1) 1) j9)) 1 [(mo, .inr (15, [.ref e0, .ref c1, .ref c2, .ref c3, .ref c4, .ref c5, .ref q1, .int (nI 0), .int (nI 0), .int 0, .int (nI 7), .int 0])), (q1, aI k 49 (fun j9 => nI ((ad (ad (sb g c 4) (c - 1) 1) (c + 1) 1) j9)))] rfl (fun j hj => by exact ad_step _ _ _ j) rfl ?_
                          refine g_iinc (pc := 197) (n := 1) (v := (nI ((sumN v (7 * 7)) + 1))) C 3 [(3, .int (nI ((sumN v (7 * 7)) + 1))), (0, .ref mo), (1, .int (nI 7)), (2, .int (nI m)), (4, .int (nI c))] rfl (nI_1 (sumN v (7 * 7))) dX11_picture_197 (by decide) rfl ?_
                          refine g_iconst (pc := 200) (v := (-1)) C (by decide) dX11_picture_200 ?_
                          refine g_istore (pc := 201) C [(4, .int (-1)), (3, .int (nI ((sumN v (7 * 7)) + 1))), (0, .ref mo), (1, .int (nI 7)), (2, .int (nI m))] dX11_picture_201 (by decide) rfl ?_
                          refine g_iinc (pc := 203) (n := 1) (v := ((-1) + 1)) C 0 [(4, .int ((-1) + 1)), (3, .int (nI ((sumN v (7 * 7)) + 1))), (0, .ref mo), (1, .int (nI 7)), (2, .int (nI m))] rfl rfl dX11_picture_203 (by decide) rfl ?_
                          refine g_goto (pc := 206) C 75 (by decide) dX11_picture_206 ?_
                          refine G.loc [2, 3, 4, 1, 0] (lv' := [(0, .ref mo), (1, .int (nI 7)), (2, .int (nI m)), (3, .int (nI ((sumN v (7 * 7)) + 1))), (4, .int ((-1) + 1))]) rfl ?_
                          refine G.fn (fun j9 => nI ((tpl 7 c 1 g) j9)) 1 [(mo, .inr (15, [.ref e0, .ref c1, .ref c2, .ref c3, .ref c4, .ref c5, .ref q1, .int (nI 0), .int (nI 0), .int 0, .int (nI 7), .int 0])), (q1, aI k 49 (fun j9 => nI ((tpl 7 c 1 g) j9)))] rfl (fun j hj => by first | rfl | (exact congrArg nI (by simp only [ad, sb, tpl, nbr]; repeat' (first | omega | split)))) rfl ?_
                          refine G.eql (lv' := [(0, .ref mo), (1, .int (nI 7)), (2, .int (nI m)), (3, .int (nI (sumN (adv v c 1) (7 * 7)))), (4, .int (nI 0))]) ((congrArg (β := List (Nat × Value)) (fun z9 => [(0, .ref mo), (1, .int (nI 7)), (2, .int (nI m)), (3, .int z9), (4, .int ((-1) + 1))]) (show ((nI ((sumN v (7 * 7)) + 1)) : Int32) = (nI (sumN (adv v c 1) (7 * 7))) from by first | rfl | decide | (rw [sumN_adv1 _ _ _ _ (show c < (7 * 7) by omega)]))).trans (congrArg (β := List (Nat × Value)) (fun z9 => [(0, .ref mo), (1, .int (nI 7)), (2, .int (nI m)), (3, .int (nI (sumN (adv v c 1) (7 * 7)))), (4, .int z9)]) (show (((-1) + 1) : Int32) = (nI 0) from by first | rfl | decide | (rw [sumN_adv1 _ _ _ _ (show c < (7 * 7) by omega)])))) ?_
                          exact ih_75 0 (tpl 7 c 1 g) (adv v c 1) (by first | exact hW | exact went_step (by decide) hW (show c < (7 * 7) by omega) (by omega)) (by omega) (by first | exact fun j hj => absurd hj (Nat.not_lt_zero j) | exact fun j hj => (by rcases Nat.lt_or_ge j c with q | q; exact hq j q; rw [show j = c by omega]; exact k93)) (by first | omega | (rw [sumN_adv1 _ _ _ _ (show c < (7 * 7) by omega)]; omega))
                    · have k138 : c + 7 < 49 := by rcases Nat.lt_or_ge (c + 7) (49) with q | q; exact q; exact absurd (show nI (49) ≤ nI (c + 7) from nI_le q (by omega)) c_138
                      refine g_aload_n (pc := 141) C 0 rfl rfl dX11_picture_141 ?_
                      refine g_get (pc := 142) C (T := TX11) inX11 0 rfl rfl 6 (by decide) q_293 rfl rfl dX11_picture_142 ?_
                      refine g_iload (pc := 145) C 4 rfl dX11_picture_145 ?_
                      refine g_iload_n (pc := 147) C 1 rfl rfl dX11_picture_147 ?_
                      refine g_iadd (pc := 148) C dX11_picture_148 ?_
                      refine G.eqs (st' := [.int (nI (c + 7)), .ref q1]) (congrArg (β := List Value) (fun z9 => [.int z9, .ref q1]) (show (((nI c) + (nI 7)) : Int32) = (nI (c + 7)) from nI_add c 7)) ?_
                      refine g_dup2 (pc := 149) C rfl rfl dX11_picture_149 ?_
                      refine g_iald_n (pc := 150) C (j := (c + 7)) 1 rfl (by omega) (by first | decide | omega) rfl dX11_picture_150 ?_
                      refine g_iconst (pc := 151) (v := 1) C (by decide) dX11_picture_151 ?_
                      refine g_iadd (pc := 152) C dX11_picture_152 ?_
                      refine g_iast_n (pc := 153) C (j := (c + 7)) 1 [(mo, .inr (15, [.ref e0, .ref c1, .ref c2, .ref c3, .ref c4, .ref c5, .ref q1, .int (nI 0), .int (nI 0), .int 0, .int (nI 7), .int 0])), (q1, aI k 49 (upd (fun j9 => nI ((sb g c 4) j9)) (c + 7) (((fun j9 => nI ((sb g c 4) j9)) (c + 7)) + 1)))] rfl (by omega) (by first | decide | omega) rfl rfl dX11_picture_153 ?_
                      refine G.fn (fun j9 => nI ((ad (sb g c 4) (c + 7) 1) j9)) 1 [(mo, .inr (15, [.ref e0, .ref c1, .ref c2, .ref c3, .ref c4, .ref c5, .ref q1, .int (nI 0), .int (nI 0), .int 0, .int (nI 7), .int 0])), (q1, aI k 49 (fun j9 => nI ((ad (sb g c 4) (c + 7) 1) j9)))] rfl (fun j hj => by exact ad_step _ _ _ j) rfl ?_
                      refine g_iload (pc := 154) C 4 rfl dX11_picture_154 ?_
                      refine g_iload_n (pc := 156) C 1 rfl rfl dX11_picture_156 ?_
                      refine g_irem (pc := 157) C (by first | assumption | decide) dX11_picture_157 ?_
                      refine G.eqs (st' := [.int (nI (c % 7))]) (congrArg (β := List Value) (fun z9 => [.int z9]) (show (((nI c) - (nI c) / (nI 7) * (nI 7)) : Int32) = (nI (c % 7)) from pk_rem (by omega) (by decide) (by decide))) ?_
                      refine g_if_le (pc := 158) C 174 (by decide) dX11_picture_158 (fun c_158 => ?_) (fun c_158 => ?_)
                      · have k158 : c % 7 = 0 := by rcases Nat.eq_zero_or_pos (c % 7) with q | q; exact q; exact absurd c_158 (nI_nle q (by omega))
                        refine g_iload (pc := 174) C 4 rfl dX11_picture_174 ?_
                        refine g_iload_n (pc := 176) C 1 rfl rfl dX11_picture_176 ?_
                        refine g_irem (pc := 177) C (by first | assumption | decide) dX11_picture_177 ?_
                        refine G.eqs (st' := [.int (nI (c % 7))]) (congrArg (β := List Value) (fun z9 => [.int z9]) (show (((nI c) - (nI c) / (nI 7) * (nI 7)) : Int32) = (nI (c % 7)) from pk_rem (by omega) (by decide) (by decide))) ?_
                        refine g_iload_n (pc := 178) C 1 rfl rfl dX11_picture_178 ?_
                        refine g_iconst (pc := 179) (v := 1) C (by decide) dX11_picture_179 ?_
                        refine g_isub (pc := 180) C dX11_picture_180 ?_
                        refine G.eqs (st' := [.int (nI 6), .int (nI (c % 7))]) (congrArg (β := List Value) (fun z9 => [.int z9, .int (nI (c % 7))]) (show (((nI 7) - 1) : Int32) = (nI 6) from by decide)) ?_
                        refine g_icmp_ge (pc := 181) C 197 (by decide) dX11_picture_181 (fun c_181 => ?_) (fun c_181 => ?_)
                        · have k181 : 6 ≤ c % 7 := by rcases Nat.lt_or_ge (c % 7) (6) with q | q; exact absurd (show nI (6) ≤ nI (c % 7) from c_181) (nI_ge q (by omega)); exact q
                          refine g_iinc (pc := 197) (n := 1) (v := (nI ((sumN v (7 * 7)) + 1))) C 3 [(3, .int (nI ((sumN v (7 * 7)) + 1))), (0, .ref mo), (1, .int (nI 7)), (2, .int (nI m)), (4, .int (nI c))] rfl (nI_1 (sumN v (7 * 7))) dX11_picture_197 (by decide) rfl ?_
                          refine g_iconst (pc := 200) (v := (-1)) C (by decide) dX11_picture_200 ?_
                          refine g_istore (pc := 201) C [(4, .int (-1)), (3, .int (nI ((sumN v (7 * 7)) + 1))), (0, .ref mo), (1, .int (nI 7)), (2, .int (nI m))] dX11_picture_201 (by decide) rfl ?_
                          refine g_iinc (pc := 203) (n := 1) (v := ((-1) + 1)) C 0 [(4, .int ((-1) + 1)), (3, .int (nI ((sumN v (7 * 7)) + 1))), (0, .ref mo), (1, .int (nI 7)), (2, .int (nI m))] rfl rfl dX11_picture_203 (by decide) rfl ?_
                          refine g_goto (pc := 206) C 75 (by decide) dX11_picture_206 ?_
                          refine G.loc [2, 3, 4, 1, 0] (lv' := [(0, .ref mo), (1, .int (nI 7)), (2, .int (nI m)), (3, .int (nI ((sumN v (7 * 7)) + 1))), (4, .int ((-1) + 1))]) rfl ?_
                          refine G.fn (fun j9 => nI ((tpl 7 c 1 g) j9)) 1 [(mo, .inr (15, [.ref e0, .ref c1, .ref c2, .ref c3, .ref c4, .ref c5, .ref q1, .int (nI 0), .int (nI 0), .int 0, .int (nI 7), .int 0])), (q1, aI k 49 (fun j9 => nI ((tpl 7 c 1 g) j9)))] rfl (fun j hj => by first | rfl | (exact congrArg nI (by simp only [ad, sb, tpl, nbr]; repeat' (first | omega | split)))) rfl ?_
                          refine G.eql (lv' := [(0, .ref mo), (1, .int (nI 7)), (2, .int (nI m)), (3, .int (nI (sumN (adv v c 1) (7 * 7)))), (4, .int (nI 0))]) ((congrArg (β := List (Nat × Value)) (fun z9 => [(0, .ref mo), (1, .int (nI 7)), (2, .int (nI m)), (3, .int z9), (4, .int ((-1) + 1))]) (show ((nI ((sumN v (7 * 7)) + 1)) : Int32) = (nI (sumN (adv v c 1) (7 * 7))) from by first | rfl | decide | (rw [sumN_adv1 _ _ _ _ (show c < (7 * 7) by omega)]))).trans (congrArg (β := List (Nat × Value)) (fun z9 => [(0, .ref mo), (1, .int (nI 7)), (2, .int (nI m)), (3, .int (nI (sumN (adv v c 1) (7 * 7)))), (4, .int z9)]) (show (((-1) + 1) : Int32) = (nI 0) from by first | rfl | decide | (rw [sumN_adv1 _ _ _ _ (show c < (7 * 7) by omega)])))) ?_
                          exact ih_75 0 (tpl 7 c 1 g) (adv v c 1) (by first | exact hW | exact went_step (by decide) hW (show c < (7 * 7) by omega) (by omega)) (by omega) (by first | exact fun j hj => absurd hj (Nat.not_lt_zero j) | exact fun j hj => (by rcases Nat.lt_or_ge j c with q | q; exact hq j q; rw [show j = c by omega]; exact k93)) (by first | omega | (rw [sumN_adv1 _ _ _ _ (show c < (7 * 7) by omega)]; omega))
                        · have k181 : c % 7 < 6 := by rcases Nat.lt_or_ge (c % 7) (6) with q | q; exact q; exact absurd (show nI (6) ≤ nI (c % 7) from nI_le q (by omega)) c_181
                          refine g_aload_n (pc := 184) C 0 rfl rfl dX11_picture_184 ?_
                          refine g_get (pc := 185) C (T := TX11) inX11 0 rfl rfl 6 (by decide) q_293 rfl rfl dX11_picture_185 ?_
                          refine g_iload (pc := 188) C 4 rfl dX11_picture_188 ?_
                          refine g_iconst (pc := 190) (v := 1) C (by decide) dX11_picture_190 ?_
                          refine g_iadd (pc := 191) C dX11_picture_191 ?_
                          refine G.eqs (st' := [.int (nI (c + 1)), .ref q1]) (congrArg (β := List Value) (fun z9 => [.int z9, .ref q1]) (show (((nI c) + 1) : Int32) = (nI (c + 1)) from nI_1 c)) ?_
                          refine g_dup2 (pc := 192) C rfl rfl dX11_picture_192 ?_
                          refine g_iald_n (pc := 193) C (j := (c + 1)) 1 rfl (by omega) (by first | decide | omega) rfl dX11_picture_193 ?_
                          refine g_iconst (pc := 194) (v := 1) C (by decide) dX11_picture_194 ?_
                          refine g_iadd (pc := 195) C dX11_picture_195 ?_
                          refine g_iast_n (pc := 196) C (j := (c + 1)) 1 [(mo, .inr (15, [.ref e0, .ref c1, .ref c2, .ref c3, .ref c4, .ref c5, .ref q1, .int (nI 0), .int (nI 0), .int 0, .int (nI 7), .int 0])), (q1, aI k 49 (upd (fun j9 => nI ((ad (sb g c 4) (c + 7) 1) j9)) (c + 1) (((fun j9 => nI ((ad (sb g c 4) (c + 7) 1) j9)) (c + 1)) + 1)))] rfl (by omega) (by first | decide | omega) rfl rfl dX11_picture_196 ?_
                          refine G.fn (fun j9 => nI ((ad (ad (sb g c 4) (c + 7) 1) (c + 1) 1) j9)) 1 [(mo, .inr (15, [.ref e0, .ref c1, .ref c2, .ref c3, .ref c4, .ref c5, .ref q1, .int (nI 0), .int (nI 0), .int 0, .int (nI 7), .int 0])), (q1, aI k 49 (fun j9 => nI ((ad (ad (sb g c 4) (c + 7) 1) (c + 1) 1) j9)))] rfl (fun j hj => by exact ad_step _ _ _ j) rfl ?_
                          refine g_iinc (pc := 197) (n := 1) (v := (nI ((sumN v (7 * 7)) + 1))) C 3 [(3, .int (nI ((sumN v (7 * 7)) + 1))), (0, .ref mo), (1, .int (nI 7)), (2, .int (nI m)), (4, .int (nI c))] rfl (nI_1 (sumN v (7 * 7))) dX11_picture_197 (by decide) rfl ?_
                          refine g_iconst (pc := 200) (v := (-1)) C (by decide) dX11_picture_200 ?_
                          refine g_istore (pc := 201) C [(4, .int (-1)), (3, .int (nI ((sumN v (7 * 7)) + 1))), (0, .ref mo), (1, .int (nI 7)), (2, .int (nI m))] dX11_picture_201 (by decide) rfl ?_
                          refine g_iinc (pc := 203) (n := 1) (v := ((-1) + 1)) C 0 [(4, .int ((-1) + 1)), (3, .int (nI ((sumN v (7 * 7)) + 1))), (0, .ref mo), (1, .int (nI 7)), (2, .int (nI m))] rfl rfl dX11_picture_203 (by decide) rfl ?_
                          refine g_goto (pc := 206) C 75 (by decide) dX11_picture_206 ?_
                          refine G.loc [2, 3, 4, 1, 0] (lv' := [(0, .ref mo), (1, .int (nI 7)), (2, .int (nI m)), (3, .int (nI ((sumN v (7 * 7)) + 1))), (4, .int ((-1) + 1))]) rfl ?_
                          refine G.fn (fun j9 => nI ((tpl 7 c 1 g) j9)) 1 [(mo, .inr (15, [.ref e0, .ref c1, .ref c2, .ref c3, .ref c4, .ref c5, .ref q1, .int (nI 0), .int (nI 0), .int 0, .int (nI 7), .int 0])), (q1, aI k 49 (fun j9 => nI ((tpl 7 c 1 g) j9)))] rfl (fun j hj => by first | rfl | (exact congrArg nI (by simp only [ad, sb, tpl, nbr]; repeat' (first | omega | split)))) rfl ?_
                          refine G.eql (lv' := [(0, .ref mo), (1, .int (nI 7)), (2, .int (nI m)), (3, .int (nI (sumN (adv v c 1) (7 * 7)))), (4, .int (nI 0))]) ((congrArg (β := List (Nat × Value)) (fun z9 => [(0, .ref mo), (1, .int (nI 7)), (2, .int (nI m)), (3, .int z9), (4, .int ((-1) + 1))]) (show ((nI ((sumN v (7 * 7)) + 1)) : Int32) = (nI (sumN (adv v c 1) (7 * 7))) from by first | rfl | decide | (rw [sumN_adv1 _ _ _ _ (show c < (7 * 7) by omega)]))).trans (congrArg (β := List (Nat × Value)) (fun z9 => [(0, .ref mo), (1, .int (nI 7)), (2, .int (nI m)), (3, .int (nI (sumN (adv v c 1) (7 * 7)))), (4, .int z9)]) (show (((-1) + 1) : Int32) = (nI 0) from by first | rfl | decide | (rw [sumN_adv1 _ _ _ _ (show c < (7 * 7) by omega)])))) ?_
                          exact ih_75 0 (tpl 7 c 1 g) (adv v c 1) (by first | exact hW | exact went_step (by decide) hW (show c < (7 * 7) by omega) (by omega)) (by omega) (by first | exact fun j hj => absurd hj (Nat.not_lt_zero j) | exact fun j hj => (by rcases Nat.lt_or_ge j c with q | q; exact hq j q; rw [show j = c by omega]; exact k93)) (by first | omega | (rw [sumN_adv1 _ _ _ _ (show c < (7 * 7) by omega)]; omega))
                      · have k158 : 0 < c % 7 := by rcases Nat.eq_zero_or_pos (c % 7) with q | q; rw [q] at c_158; exact absurd (show nI 0 ≤ 0 by decide) c_158; exact q
                        refine g_aload_n (pc := 161) C 0 rfl rfl dX11_picture_161 ?_
                        refine g_get (pc := 162) C (T := TX11) inX11 0 rfl rfl 6 (by decide) q_293 rfl rfl dX11_picture_162 ?_
                        refine g_iload (pc := 165) C 4 rfl dX11_picture_165 ?_
                        refine g_iconst (pc := 167) (v := 1) C (by decide) dX11_picture_167 ?_
                        refine g_isub (pc := 168) C dX11_picture_168 ?_
                        refine G.eqs (st' := [.int (nI (c - 1)), .ref q1]) (congrArg (β := List Value) (fun z9 => [.int z9, .ref q1]) (show (((nI c) - 1) : Int32) = (nI (c - 1)) from by rw [show (1 : Int32) = nI 1 from rfl]; exact pk_sub (by omega))) ?_
                        refine g_dup2 (pc := 169) C rfl rfl dX11_picture_169 ?_
                        refine g_iald_n (pc := 170) C (j := (c - 1)) 1 rfl (by omega) (by first | decide | omega) rfl dX11_picture_170 ?_
                        refine g_iconst (pc := 171) (v := 1) C (by decide) dX11_picture_171 ?_
                        refine g_iadd (pc := 172) C dX11_picture_172 ?_
                        refine g_iast_n (pc := 173) C (j := (c - 1)) 1 [(mo, .inr (15, [.ref e0, .ref c1, .ref c2, .ref c3, .ref c4, .ref c5, .ref q1, .int (nI 0), .int (nI 0), .int 0, .int (nI 7), .int 0])), (q1, aI k 49 (upd (fun j9 => nI ((ad (sb g c 4) (c + 7) 1) j9)) (c - 1) (((fun j9 => nI ((ad (sb g c 4) (c + 7) 1) j9)) (c - 1)) + 1)))] rfl (by omega) (by first | decide | omega) rfl rfl dX11_picture_173 ?_
                        refine G.fn (fun j9 => nI ((ad (ad (sb g c 4) (c + 7) 1) (c - 1) 1) j9)) 1 [(mo, .inr (15, [.ref e0, .ref c1, .ref c2, .ref c3, .ref c4, .ref c5, .ref q1, .int (nI 0), .int (nI 0), .int 0, .int (nI 7), .int 0])), (q1, aI k 49 (fun j9 => nI ((ad (ad (sb g c 4) (c + 7) 1) (c - 1) 1) j9)))] rfl (fun j hj => by exact ad_step _ _ _ j) rfl ?_
                        refine g_iload (pc := 174) C 4 rfl dX11_picture_174 ?_
                        refine g_iload_n (pc := 176) C 1 rfl rfl dX11_picture_176 ?_
                        refine g_irem (pc := 177) C (by first | assumption | decide) dX11_picture_177 ?_
                        refine G.eqs (st' := [.int (nI (c % 7))]) (congrArg (β := List Value) (fun z9 => [.int z9]) (show (((nI c) - (nI c) / (nI 7) * (nI 7)) : Int32) = (nI (c % 7)) from pk_rem (by omega) (by decide) (by decide))) ?_
                        refine g_iload_n (pc := 178) C 1 rfl rfl dX11_picture_178 ?_
                        refine g_iconst (pc := 179) (v := 1) C (by decide) dX11_picture_179 ?_
                        refine g_isub (pc := 180) C dX11_picture_180 ?_
                        refine G.eqs (st' := [.int (nI 6), .int (nI (c % 7))]) (congrArg (β := List Value) (fun z9 => [.int z9, .int (nI (c % 7))]) (show (((nI 7) - 1) : Int32) = (nI 6) from by decide)) ?_
                        refine g_icmp_ge (pc := 181) C 197 (by decide) dX11_picture_181 (fun c_181 => ?_) (fun c_181 => ?_)
                        · have k181 : 6 ≤ c % 7 := by rcases Nat.lt_or_ge (c % 7) (6) with q | q; exact absurd (show nI (6) ≤ nI (c % 7) from c_181) (nI_ge q (by omega)); exact q
                          refine g_iinc (pc := 197) (n := 1) (v := (nI ((sumN v (7 * 7)) + 1))) C 3 [(3, .int (nI ((sumN v (7 * 7)) + 1))), (0, .ref mo), (1, .int (nI 7)), (2, .int (nI m)), (4, .int (nI c))] rfl (nI_1 (sumN v (7 * 7))) dX11_picture_197 (by decide) rfl ?_
                          refine g_iconst (pc := 200) (v := (-1)) C (by decide) dX11_picture_200 ?_
                          refine g_istore (pc := 201) C [(4, .int (-1)), (3, .int (nI ((sumN v (7 * 7)) + 1))), (0, .ref mo), (1, .int (nI 7)), (2, .int (nI m))] dX11_picture_201 (by decide) rfl ?_
                          refine g_iinc (pc := 203) (n := 1) (v := ((-1) + 1)) C 0 [(4, .int ((-1) + 1)), (3, .int (nI ((sumN v (7 * 7)) + 1))), (0, .ref mo), (1, .int (nI 7)), (2, .int (nI m))] rfl rfl dX11_picture_203 (by decide) rfl ?_
                          refine g_goto (pc := 206) C 75 (by decide) dX11_picture_206 ?_
                          refine G.loc [2, 3, 4, 1, 0] (lv' := [(0, .ref mo), (1, .int (nI 7)), (2, .int (nI m)), (3, .int (nI ((sumN v (7 * 7)) + 1))), (4, .int ((-1) + 1))]) rfl ?_
                          refine G.fn (fun j9 => nI ((tpl 7 c 1 g) j9)) 1 [(mo, .inr (15, [.ref e0, .ref c1, .ref c2, .ref c3, .ref c4, .ref c5, .ref q1, .int (nI 0), .int (nI 0), .int 0, .int (nI 7), .int 0])), (q1, aI k 49 (fun j9 => nI ((tpl 7 c 1 g) j9)))] rfl (fun j hj => by first | rfl | (exact congrArg nI (by simp only [ad, sb, tpl, nbr]; repeat' (first | omega | split)))) rfl ?_
                          refine G.eql (lv' := [(0, .ref mo), (1, .int (nI 7)), (2, .int (nI m)), (3, .int (nI (sumN (adv v c 1) (7 * 7)))), (4, .int (nI 0))]) ((congrArg (β := List (Nat × Value)) (fun z9 => [(0, .ref mo), (1, .int (nI 7)), (2, .int (nI m)), (3, .int z9), (4, .int ((-1) + 1))]) (show ((nI ((sumN v (7 * 7)) + 1)) : Int32) = (nI (sumN (adv v c 1) (7 * 7))) from by first | rfl | decide | (rw [sumN_adv1 _ _ _ _ (show c < (7 * 7) by omega)]))).trans (congrArg (β := List (Nat × Value)) (fun z9 => [(0, .ref mo), (1, .int (nI 7)), (2, .int (nI m)), (3, .int (nI (sumN (adv v c 1) (7 * 7)))), (4, .int z9)]) (show (((-1) + 1) : Int32) = (nI 0) from by first | rfl | decide | (rw [sumN_adv1 _ _ _ _ (show c < (7 * 7) by omega)])))) ?_
                          exact ih_75 0 (tpl 7 c 1 g) (adv v c 1) (by first | exact hW | exact went_step (by decide) hW (show c < (7 * 7) by omega) (by omega)) (by omega) (by first | exact fun j hj => absurd hj (Nat.not_lt_zero j) | exact fun j hj => (by rcases Nat.lt_or_ge j c with q | q; exact hq j q; rw [show j = c by omega]; exact k93)) (by first | omega | (rw [sumN_adv1 _ _ _ _ (show c < (7 * 7) by omega)]; omega))
                        · have k181 : c % 7 < 6 := by rcases Nat.lt_or_ge (c % 7) (6) with q | q; exact q; exact absurd (show nI (6) ≤ nI (c % 7) from nI_le q (by omega)) c_181
                          refine g_aload_n (pc := 184) C 0 rfl rfl dX11_picture_184 ?_
                          refine g_get (pc := 185) C (T := TX11) inX11 0 rfl rfl 6 (by decide) q_293 rfl rfl dX11_picture_185 ?_
                          refine g_iload (pc := 188) C 4 rfl dX11_picture_188 ?_
                          refine g_iconst (pc := 190) (v := 1) C (by decide) dX11_picture_190 ?_
                          refine g_iadd (pc := 191) C dX11_picture_191 ?_
                          refine G.eqs (st' := [.int (nI (c + 1)), .ref q1]) (congrArg (β := List Value) (fun z9 => [.int z9, .ref q1]) (show (((nI c) + 1) : Int32) = (nI (c + 1)) from nI_1 c)) ?_
                          refine g_dup2 (pc := 192) C rfl rfl dX11_picture_192 ?_
                          refine g_iald_n (pc := 193) C (j := (c + 1)) 1 rfl (by omega) (by first | decide | omega) rfl dX11_picture_193 ?_
                          refine g_iconst (pc := 194) (v := 1) C (by decide) dX11_picture_194 ?_
                          refine g_iadd (pc := 195) C dX11_picture_195 ?_
                          refine g_iast_n (pc := 196) C (j := (c + 1)) 1 [(mo, .inr (15, [.ref e0, .ref c1, .ref c2, .ref c3, .ref c4, .ref c5, .ref q1, .int (nI 0), .int (nI 0), .int 0, .int (nI 7), .int 0])), (q1, aI k 49 (upd (fun j9 => nI ((ad (ad (sb g c 4) (c + 7) 1) (c - 1) 1) j9)) (c + 1) (((fun j9 => nI ((ad (ad (sb g c 4) (c + 7) 1) (c - 1) 1) j9)) (c + 1)) + 1)))] rfl (by omega) (by first | decide | omega) rfl rfl dX11_picture_196 ?_
                          refine G.fn (fun j9 => nI ((ad (ad (ad (sb g c 4) (c + 7) 1) (c - 1) 1) (c + 1) 1) j9)) 1 [(mo, .inr (15, [.ref e0, .ref c1, .ref c2, .ref c3, .ref c4, .ref c5, .ref q1, .int (nI 0), .int (nI 0), .int 0, .int (nI 7), .int 0])), (q1, aI k 49 (fun j9 => nI ((ad (ad (ad (sb g c 4) (c + 7) 1) (c - 1) 1) (c + 1) 1) j9)))] rfl (fun j hj => by exact ad_step _ _ _ j) rfl ?_
                          refine g_iinc (pc := 197) (n := 1) (v := (nI ((sumN v (7 * 7)) + 1))) C 3 [(3, .int (nI ((sumN v (7 * 7)) + 1))), (0, .ref mo), (1, .int (nI 7)), (2, .int (nI m)), (4, .int (nI c))] rfl (nI_1 (sumN v (7 * 7))) dX11_picture_197 (by decide) rfl ?_
                          refine g_iconst (pc := 200) (v := (-1)) C (by decide) dX11_picture_200 ?_
                          refine g_istore (pc := 201) C [(4, .int (-1)), (3, .int (nI ((sumN v (7 * 7)) + 1))), (0, .ref mo), (1, .int (nI 7)), (2, .int (nI m))] dX11_picture_201 (by decide) rfl ?_
                          refine g_iinc (pc := 203) (n := 1) (v := ((-1) + 1)) C 0 [(4, .int ((-1) + 1)), (3, .int (nI ((sumN v (7 * 7)) + 1))), (0, .ref mo), (1, .int (nI 7)), (2, .int (nI m))] rfl rfl dX11_picture_203 (by decide) rfl ?_
                          refine g_goto (pc := 206) C 75 (by decide) dX11_picture_206 ?_
                          refine G.loc [2, 3, 4, 1, 0] (lv' := [(0, .ref mo), (1, .int (nI 7)), (2, .int (nI m)), (3, .int (nI ((sumN v (7 * 7)) + 1))), (4, .int ((-1) + 1))]) rfl ?_
                          refine G.fn (fun j9 => nI ((tpl 7 c 1 g) j9)) 1 [(mo, .inr (15, [.ref e0, .ref c1, .ref c2, .ref c3, .ref c4, .ref c5, .ref q1, .int (nI 0), .int (nI 0), .int 0, .int (nI 7), .int 0])), (q1, aI k 49 (fun j9 => nI ((tpl 7 c 1 g) j9)))] rfl (fun j hj => by first | rfl | (exact congrArg nI (by simp only [ad, sb, tpl, nbr]; repeat' (first | omega | split)))) rfl ?_
                          refine G.eql (lv' := [(0, .ref mo), (1, .int (nI 7)), (2, .int (nI m)), (3, .int (nI (sumN (adv v c 1) (7 * 7)))), (4, .int (nI 0))]) ((congrArg (β := List (Nat × Value)) (fun z9 => [(0, .ref mo), (1, .int (nI 7)), (2, .int (nI m)), (3, .int z9), (4, .int ((-1) + 1))]) (show ((nI ((sumN v (7 * 7)) + 1)) : Int32) = (nI (sumN (adv v c 1) (7 * 7))) from by first | rfl | decide | (rw [sumN_adv1 _ _ _ _ (show c < (7 * 7) by omega)]))).trans (congrArg (β := List (Nat × Value)) (fun z9 => [(0, .ref mo), (1, .int (nI 7)), (2, .int (nI m)), (3, .int (nI (sumN (adv v c 1) (7 * 7)))), (4, .int z9)]) (show (((-1) + 1) : Int32) = (nI 0) from by first | rfl | decide | (rw [sumN_adv1 _ _ _ _ (show c < (7 * 7) by omega)])))) ?_
                          exact ih_75 0 (tpl 7 c 1 g) (adv v c 1) (by first | exact hW | exact went_step (by decide) hW (show c < (7 * 7) by omega) (by omega)) (by omega) (by first | exact fun j hj => absurd hj (Nat.not_lt_zero j) | exact fun j hj => (by rcases Nat.lt_or_ge j c with q | q; exact hq j q; rw [show j = c by omega]; exact k93)) (by first | omega | (rw [sumN_adv1 _ _ _ _ (show c < (7 * 7) by omega)]; omega))
                  · have k113 : 7 ≤ c := by rcases Nat.lt_or_ge (c) (7) with q | q; exact absurd (nI_lt q (by omega)) c_113; exact q
                    refine g_aload_n (pc := 116) C 0 rfl rfl dX11_picture_116 ?_
                    refine g_get (pc := 117) C (T := TX11) inX11 0 rfl rfl 6 (by decide) q_293 rfl rfl dX11_picture_117 ?_
                    refine g_iload (pc := 120) C 4 rfl dX11_picture_120 ?_
                    refine g_iload_n (pc := 122) C 1 rfl rfl dX11_picture_122 ?_
                    refine g_isub (pc := 123) C dX11_picture_123 ?_
                    refine G.eqs (st' := [.int (nI (c - 7)), .ref q1]) (congrArg (β := List Value) (fun z9 => [.int z9, .ref q1]) (show (((nI c) - (nI 7)) : Int32) = (nI (c - 7)) from pk_sub (by omega))) ?_
                    refine g_dup2 (pc := 124) C rfl rfl dX11_picture_124 ?_
                    refine g_iald_n (pc := 125) C (j := (c - 7)) 1 rfl (by omega) (by first | decide | omega) rfl dX11_picture_125 ?_
                    refine g_iconst (pc := 126) (v := 1) C (by decide) dX11_picture_126 ?_
                    refine g_iadd (pc := 127) C dX11_picture_127 ?_
                    refine g_iast_n (pc := 128) C (j := (c - 7)) 1 [(mo, .inr (15, [.ref e0, .ref c1, .ref c2, .ref c3, .ref c4, .ref c5, .ref q1, .int (nI 0), .int (nI 0), .int 0, .int (nI 7), .int 0])), (q1, aI k 49 (upd (fun j9 => nI ((sb g c 4) j9)) (c - 7) (((fun j9 => nI ((sb g c 4) j9)) (c - 7)) + 1)))] rfl (by omega) (by first | decide | omega) rfl rfl dX11_picture_128 ?_
                    refine G.fn (fun j9 => nI ((ad (sb g c 4) (c - 7) 1) j9)) 1 [(mo, .inr (15, [.ref e0, .ref c1, .ref c2, .ref c3, .ref c4, .ref c5, .ref q1, .int (nI 0), .int (nI 0), .int 0, .int (nI 7), .int 0])), (q1, aI k 49 (fun j9 => nI ((ad (sb g c 4) (c - 7) 1) j9)))] rfl (fun j hj => by exact ad_step _ _ _ j) rfl ?_
                    refine g_iload (pc := 129) C 4 rfl dX11_picture_129 ?_
                    refine g_iload_n (pc := 131) C 1 rfl rfl dX11_picture_131 ?_
                    refine g_iadd (pc := 132) C dX11_picture_132 ?_
                    refine G.eqs (st' := [.int (nI (c + 7))]) (congrArg (β := List Value) (fun z9 => [.int z9]) (show (((nI c) + (nI 7)) : Int32) = (nI (c + 7)) from nI_add c 7)) ?_
                    refine g_aload_n (pc := 133) C 0 rfl rfl dX11_picture_133 ?_
                    refine g_get (pc := 134) C (T := TX11) inX11 0 rfl rfl 6 (by decide) q_293 rfl rfl dX11_picture_134 ?_
                    refine g_alen (pc := 137) C 1 rfl (t0 := 0) rfl (v := (nI 49)) rfl dX11_picture_137 ?_
                    refine g_icmp_ge (pc := 138) C 154 (by decide) dX11_picture_138 (fun c_138 => ?_) (fun c_138 => ?_)
                    · have k138 : 49 ≤ c + 7 := by rcases Nat.lt_or_ge (c + 7) (49) with q | q; exact absurd (show nI (49) ≤ nI (c + 7) from c_138) (nI_ge q (by omega)); exact q
                      refine g_iload (pc := 154) C 4 rfl dX11_picture_154 ?_
                      refine g_iload_n (pc := 156) C 1 rfl rfl dX11_picture_156 ?_
                      refine g_irem (pc := 157) C (by first | assumption | decide) dX11_picture_157 ?_
                      refine G.eqs (st' := [.int (nI (c % 7))]) (congrArg (β := List Value) (fun z9 => [.int z9]) (show (((nI c) - (nI c) / (nI 7) * (nI 7)) : Int32) = (nI (c % 7)) from pk_rem (by omega) (by decide) (by decide))) ?_
                      refine g_if_le (pc := 158) C 174 (by decide) dX11_picture_158 (fun c_158 => ?_) (fun c_158 => ?_)
                      · have k158 : c % 7 = 0 := by rcases Nat.eq_zero_or_pos (c % 7) with q | q; exact q; exact absurd c_158 (nI_nle q (by omega))
                        refine g_iload (pc := 174) C 4 rfl dX11_picture_174 ?_
                        refine g_iload_n (pc := 176) C 1 rfl rfl dX11_picture_176 ?_
                        refine g_irem (pc := 177) C (by first | assumption | decide) dX11_picture_177 ?_
                        refine G.eqs (st' := [.int (nI (c % 7))]) (congrArg (β := List Value) (fun z9 => [.int z9]) (show (((nI c) - (nI c) / (nI 7) * (nI 7)) : Int32) = (nI (c % 7)) from pk_rem (by omega) (by decide) (by decide))) ?_
                        refine g_iload_n (pc := 178) C 1 rfl rfl dX11_picture_178 ?_
                        refine g_iconst (pc := 179) (v := 1) C (by decide) dX11_picture_179 ?_
                        refine g_isub (pc := 180) C dX11_picture_180 ?_
                        refine G.eqs (st' := [.int (nI 6), .int (nI (c % 7))]) (congrArg (β := List Value) (fun z9 => [.int z9, .int (nI (c % 7))]) (show (((nI 7) - 1) : Int32) = (nI 6) from by decide)) ?_
                        refine g_icmp_ge (pc := 181) C 197 (by decide) dX11_picture_181 (fun c_181 => ?_) (fun c_181 => ?_)
                        · have k181 : 6 ≤ c % 7 := by rcases Nat.lt_or_ge (c % 7) (6) with q | q; exact absurd (show nI (6) ≤ nI (c % 7) from c_181) (nI_ge q (by omega)); exact q
                          refine g_iinc (pc := 197) (n := 1) (v := (nI ((sumN v (7 * 7)) + 1))) C 3 [(3, .int (nI ((sumN v (7 * 7)) + 1))), (0, .ref mo), (1, .int (nI 7)), (2, .int (nI m)), (4, .int (nI c))] rfl (nI_1 (sumN v (7 * 7))) dX11_picture_197 (by decide) rfl ?_
                          refine g_iconst (pc := 200) (v := (-1)) C (by decide) dX11_picture_200 ?_
                          refine g_istore (pc := 201) C [(4, .int (-1)), (3, .int (nI ((sumN v (7 * 7)) + 1))), (0, .ref mo), (1, .int (nI 7)), (2, .int (nI m))] dX11_picture_201 (by decide) rfl ?_
                          refine g_iinc (pc := 203) (n := 1) (v := ((-1) + 1)) C 0 [(4, .int ((-1) + 1)), (3, .int (nI ((sumN v (7 * 7)) + 1))), (0, .ref mo), (1, .int (nI 7)), (2, .int (nI m))] rfl rfl dX11_picture_203 (by decide) rfl ?_
                          refine g_goto (pc := 206) C 75 (by decide) dX11_picture_206 ?_
                          refine G.loc [2, 3, 4, 1, 0] (lv' := [(0, .ref mo), (1, .int (nI 7)), (2, .int (nI m)), (3, .int (nI ((sumN v (7 * 7)) + 1))), (4, .int ((-1) + 1))]) rfl ?_
                          refine G.fn (fun j9 => nI ((tpl 7 c 1 g) j9)) 1 [(mo, .inr (15, [.ref e0, .ref c1, .ref c2, .ref c3, .ref c4, .ref c5, .ref q1, .int (nI 0), .int (nI 0), .int 0, .int (nI 7), .int 0])), (q1, aI k 49 (fun j9 => nI ((tpl 7 c 1 g) j9)))] rfl (fun j hj => by first | rfl | (exact congrArg nI (by simp only [ad, sb, tpl, nbr]; repeat' (first | omega | split)))) rfl ?_
                          refine G.eql (lv' := [(0, .ref mo), (1, .int (nI 7)), (2, .int (nI m)), (3, .int (nI (sumN (adv v c 1) (7 * 7)))), (4, .int (nI 0))]) ((congrArg (β := List (Nat × Value)) (fun z9 => [(0, .ref mo), (1, .int (nI 7)), (2, .int (nI m)), (3, .int z9), (4, .int ((-1) + 1))]) (show ((nI ((sumN v (7 * 7)) + 1)) : Int32) = (nI (sumN (adv v c 1) (7 * 7))) from by first | rfl | decide | (rw [sumN_adv1 _ _ _ _ (show c < (7 * 7) by omega)]))).trans (congrArg (β := List (Nat × Value)) (fun z9 => [(0, .ref mo), (1, .int (nI 7)), (2, .int (nI m)), (3, .int (nI (sumN (adv v c 1) (7 * 7)))), (4, .int z9)]) (show (((-1) + 1) : Int32) = (nI 0) from by first | rfl | decide | (rw [sumN_adv1 _ _ _ _ (show c < (7 * 7) by omega)])))) ?_
                          exact ih_75 0 (tpl 7 c 1 g) (adv v c 1) (by first | exact hW | exact went_step (by decide) hW (show c < (7 * 7) by omega) (by omega)) (by omega) (by first | exact fun j hj => absurd hj (Nat.not_lt_zero j) | exact fun j hj => (by rcases Nat.lt_or_ge j c with q | q; exact hq j q; rw [show j = c by omega]; exact k93)) (by first | omega | (rw [sumN_adv1 _ _ _ _ (show c < (7 * 7) by omega)]; omega))
                        · have k181 : c % 7 < 6 := by rcases Nat.lt_or_ge (c % 7) (6) with q | q; exact q; exact absurd (show nI (6) ≤ nI (c % 7) from nI_le q (by omega)) c_181
                          refine g_aload_n (pc := 184) C 0 rfl rfl dX11_picture_184 ?_
                          refine g_get (pc := 185) C (T := TX11) inX11 0 rfl rfl 6 (by decide) q_293 rfl rfl dX11_picture_185 ?_
                          refine g_iload (pc := 188) C 4 rfl dX11_picture_188 ?_
                          refine g_iconst (pc := 190) (v := 1) C (by decide) dX11_picture_190 ?_
                          refine g_iadd (pc := 191) C dX11_picture_191 ?_
                          refine G.eqs (st' := [.int (nI (c + 1)), .ref q1]) (congrArg (β := List Value) (fun z9 => [.int z9, .ref q1]) (show (((nI c) + 1) : Int32) = (nI (c + 1)) from nI_1 c)) ?_
                          refine g_dup2 (pc := 192) C rfl rfl dX11_picture_192 ?_
                          refine g_iald_n (pc := 193) C (j := (c + 1)) 1 rfl (by omega) (by first | decide | omega) rfl dX11_picture_193 ?_
                          refine g_iconst (pc := 194) (v := 1) C (by decide) dX11_picture_194 ?_
                          refine g_iadd (pc := 195) C dX11_picture_195 ?_
                          refine g_iast_n (pc := 196) C (j := (c + 1)) 1 [(mo, .inr (15, [.ref e0, .ref c1, .ref c2, .ref c3, .ref c4, .ref c5, .ref q1, .int (nI 0), .int (nI 0), .int 0, .int (nI 7), .int 0])), (q1, aI k 49 (upd (fun j9 => nI ((ad (sb g c 4) (c - 7) 1) j9)) (c + 1) (((fun j9 => nI ((ad (sb g c 4) (c - 7) 1) j9)) (c + 1)) + 1)))] rfl (by omega) (by first | decide | omega) rfl rfl dX11_picture_196 ?_
                          refine G.fn (fun j9 => nI ((ad (ad (sb g c 4) (c - 7) 1) (c + 1) 1) j9)) 1 [(mo, .inr (15, [.ref e0, .ref c1, .ref c2, .ref c3, .ref c4, .ref c5, .ref q1, .int (nI 0), .int (nI 0), .int 0, .int (nI 7), .int 0])), (q1, aI k 49 (fun j9 => nI ((ad (ad (sb g c 4) (c - 7) 1) (c + 1) 1) j9)))] rfl (fun j hj => by exact ad_step _ _ _ j) rfl ?_
                          refine g_iinc (pc := 197) (n := 1) (v := (nI ((sumN v (7 * 7)) + 1))) C 3 [(3, .int (nI ((sumN v (7 * 7)) + 1))), (0, .ref mo), (1, .int (nI 7)), (2, .int (nI m)), (4, .int (nI c))] rfl (nI_1 (sumN v (7 * 7))) dX11_picture_197 (by decide) rfl ?_
                          refine g_iconst (pc := 200) (v := (-1)) C (by decide) dX11_picture_200 ?_
                          refine g_istore (pc := 201) C [(4, .int (-1)), (3, .int (nI ((sumN v (7 * 7)) + 1))), (0, .ref mo), (1, .int (nI 7)), (2, .int (nI m))] dX11_picture_201 (by decide) rfl ?_
                          refine g_iinc (pc := 203) (n := 1) (v := ((-1) + 1)) C 0 [(4, .int ((-1) + 1)), (3, .int (nI ((sumN v (7 * 7)) + 1))), (0, .ref mo), (1, .int (nI 7)), (2, .int (nI m))] rfl rfl dX11_picture_203 (by decide) rfl ?_
                          refine g_goto (pc := 206) C 75 (by decide) dX11_picture_206 ?_
                          refine G.loc [2, 3, 4, 1, 0] (lv' := [(0, .ref mo), (1, .int (nI 7)), (2, .int (nI m)), (3, .int (nI ((sumN v (7 * 7)) + 1))), (4, .int ((-1) + 1))]) rfl ?_
                          refine G.fn (fun j9 => nI ((tpl 7 c 1 g) j9)) 1 [(mo, .inr (15, [.ref e0, .ref c1, .ref c2, .ref c3, .ref c4, .ref c5, .ref q1, .int (nI 0), .int (nI 0), .int 0, .int (nI 7), .int 0])), (q1, aI k 49 (fun j9 => nI ((tpl 7 c 1 g) j9)))] rfl (fun j hj => by first | rfl | (exact congrArg nI (by simp only [ad, sb, tpl, nbr]; repeat' (first | omega | split)))) rfl ?_
                          refine G.eql (lv' := [(0, .ref mo), (1, .int (nI 7)), (2, .int (nI m)), (3, .int (nI (sumN (adv v c 1) (7 * 7)))), (4, .int (nI 0))]) ((congrArg (β := List (Nat × Value)) (fun z9 => [(0, .ref mo), (1, .int (nI 7)), (2, .int (nI m)), (3, .int z9), (4, .int ((-1) + 1))]) (show ((nI ((sumN v (7 * 7)) + 1)) : Int32) = (nI (sumN (adv v c 1) (7 * 7))) from by first | rfl | decide | (rw [sumN_adv1 _ _ _ _ (show c < (7 * 7) by omega)]))).trans (congrArg (β := List (Nat × Value)) (fun z9 => [(0, .ref mo), (1, .int (nI 7)), (2, .int (nI m)), (3, .int (nI (sumN (adv v c 1) (7 * 7)))), (4, .int z9)]) (show (((-1) + 1) : Int32) = (nI 0) from by first | rfl | decide | (rw [sumN_adv1 _ _ _ _ (show c < (7 * 7) by omega)])))) ?_
                          exact ih_75 0 (tpl 7 c 1 g) (adv v c 1) (by first | exact hW | exact went_step (by decide) hW (show c < (7 * 7) by omega) (by omega)) (by omega) (by first | exact fun j hj => absurd hj (Nat.not_lt_zero j) | exact fun j hj => (by rcases Nat.lt_or_ge j c with q | q; exact hq j q; rw [show j = c by omega]; exact k93)) (by first | omega | (rw [sumN_adv1 _ _ _ _ (show c < (7 * 7) by omega)]; omega))
                      · have k158 : 0 < c % 7 := by rcases Nat.eq_zero_or_pos (c % 7) with q | q; rw [q] at c_158; exact absurd (show nI 0 ≤ 0 by decide) c_158; exact q
                        refine g_aload_n (pc := 161) C 0 rfl rfl dX11_picture_161 ?_
                        refine g_get (pc := 162) C (T := TX11) inX11 0 rfl rfl 6 (by decide) q_293 rfl rfl dX11_picture_162 ?_
                        refine g_iload (pc := 165) C 4 rfl dX11_picture_165 ?_
                        refine g_iconst (pc := 167) (v := 1) C (by decide) dX11_picture_167 ?_
                        refine g_isub (pc := 168) C dX11_picture_168 ?_
                        refine G.eqs (st' := [.int (nI (c - 1)), .ref q1]) (congrArg (β := List Value) (fun z9 => [.int z9, .ref q1]) (show (((nI c) - 1) : Int32) = (nI (c - 1)) from by rw [show (1 : Int32) = nI 1 from rfl]; exact pk_sub (by omega))) ?_
                        refine g_dup2 (pc := 169) C rfl rfl dX11_picture_169 ?_
                        refine g_iald_n (pc := 170) C (j := (c - 1)) 1 rfl (by omega) (by first | decide | omega) rfl dX11_picture_170 ?_
                        refine g_iconst (pc := 171) (v := 1) C (by decide) dX11_picture_171 ?_
                        refine g_iadd (pc := 172) C dX11_picture_172 ?_
                        refine g_iast_n (pc := 173) C (j := (c - 1)) 1 [(mo, .inr (15, [.ref e0, .ref c1, .ref c2, .ref c3, .ref c4, .ref c5, .ref q1, .int (nI 0), .int (nI 0), .int 0, .int (nI 7), .int 0])), (q1, aI k 49 (upd (fun j9 => nI ((ad (sb g c 4) (c - 7) 1) j9)) (c - 1) (((fun j9 => nI ((ad (sb g c 4) (c - 7) 1) j9)) (c - 1)) + 1)))] rfl (by omega) (by first | decide | omega) rfl rfl dX11_picture_173 ?_
                        refine G.fn (fun j9 => nI ((ad (ad (sb g c 4) (c - 7) 1) (c - 1) 1) j9)) 1 [(mo, .inr (15, [.ref e0, .ref c1, .ref c2, .ref c3, .ref c4, .ref c5, .ref q1, .int (nI 0), .int (nI 0), .int 0, .int (nI 7), .int 0])), (q1, aI k 49 (fun j9 => nI ((ad (ad (sb g c 4) (c - 7) 1) (c - 1) 1) j9)))] rfl (fun j hj => by exact ad_step _ _ _ j) rfl ?_
                        refine g_iload (pc := 174) C 4 rfl dX11_picture_174 ?_
                        refine g_iload_n (pc := 176) C 1 rfl rfl dX11_picture_176 ?_
                        refine g_irem (pc := 177) C (by first | assumption | decide) dX11_picture_177 ?_
                        refine G.eqs (st' := [.int (nI (c % 7))]) (congrArg (β := List Value) (fun z9 => [.int z9]) (show (((nI c) - (nI c) / (nI 7) * (nI 7)) : Int32) = (nI (c % 7)) from pk_rem (by omega) (by decide) (by decide))) ?_
                        refine g_iload_n (pc := 178) C 1 rfl rfl dX11_picture_178 ?_
                        refine g_iconst (pc := 179) (v := 1) C (by decide) dX11_picture_179 ?_
                        refine g_isub (pc := 180) C dX11_picture_180 ?_
                        refine G.eqs (st' := [.int (nI 6), .int (nI (c % 7))]) (congrArg (β := List Value) (fun z9 => [.int z9, .int (nI (c % 7))]) (show (((nI 7) - 1) : Int32) = (nI 6) from by decide)) ?_
                        refine g_icmp_ge (pc := 181) C 197 (by decide) dX11_picture_181 (fun c_181 => ?_) (fun c_181 => ?_)
                        · have k181 : 6 ≤ c % 7 := by rcases Nat.lt_or_ge (c % 7) (6) with q | q; exact absurd (show nI (6) ≤ nI (c % 7) from c_181) (nI_ge q (by omega)); exact q
                          refine g_iinc (pc := 197) (n := 1) (v := (nI ((sumN v (7 * 7)) + 1))) C 3 [(3, .int (nI ((sumN v (7 * 7)) + 1))), (0, .ref mo), (1, .int (nI 7)), (2, .int (nI m)), (4, .int (nI c))] rfl (nI_1 (sumN v (7 * 7))) dX11_picture_197 (by decide) rfl ?_
                          refine g_iconst (pc := 200) (v := (-1)) C (by decide) dX11_picture_200 ?_
                          refine g_istore (pc := 201) C [(4, .int (-1)), (3, .int (nI ((sumN v (7 * 7)) + 1))), (0, .ref mo), (1, .int (nI 7)), (2, .int (nI m))] dX11_picture_201 (by decide) rfl ?_
                          refine g_iinc (pc := 203) (n := 1) (v := ((-1) + 1)) C 0 [(4, .int ((-1) + 1)), (3, .int (nI ((sumN v (7 * 7)) + 1))), (0, .ref mo), (1, .int (nI 7)), (2, .int (nI m))] rfl rfl dX11_picture_203 (by decide) rfl ?_
                          refine g_goto (pc := 206) C 75 (by decide) dX11_picture_206 ?_
                          refine G.loc [2, 3, 4, 1, 0] (lv' := [(0, .ref mo), (1, .int (nI 7)), (2, .int (nI m)), (3, .int (nI ((sumN v (7 * 7)) + 1))), (4, .int ((-1) + 1))]) rfl ?_
                          refine G.fn (fun j9 => nI ((tpl 7 c 1 g) j9)) 1 [(mo, .inr (15, [.ref e0, .ref c1, .ref c2, .ref c3, .ref c4, .ref c5, .ref q1, .int (nI 0), .int (nI 0), .int 0, .int (nI 7), .int 0])), (q1, aI k 49 (fun j9 => nI ((tpl 7 c 1 g) j9)))] rfl (fun j hj => by first | rfl | (exact congrArg nI (by simp only [ad, sb, tpl, nbr]; repeat' (first | omega | split)))) rfl ?_
                          refine G.eql (lv' := [(0, .ref mo), (1, .int (nI 7)), (2, .int (nI m)), (3, .int (nI (sumN (adv v c 1) (7 * 7)))), (4, .int (nI 0))]) ((congrArg (β := List (Nat × Value)) (fun z9 => [(0, .ref mo), (1, .int (nI 7)), (2, .int (nI m)), (3, .int z9), (4, .int ((-1) + 1))]) (show ((nI ((sumN v (7 * 7)) + 1)) : Int32) = (nI (sumN (adv v c 1) (7 * 7))) from by first | rfl | decide | (rw [sumN_adv1 _ _ _ _ (show c < (7 * 7) by omega)]))).trans (congrArg (β := List (Nat × Value)) (fun z9 => [(0, .ref mo), (1, .int (nI 7)), (2, .int (nI m)), (3, .int (nI (sumN (adv v c 1) (7 * 7)))), (4, .int z9)]) (show (((-1) + 1) : Int32) = (nI 0) from by first | rfl | decide | (rw [sumN_adv1 _ _ _ _ (show c < (7 * 7) by omega)])))) ?_
                          exact ih_75 0 (tpl 7 c 1 g) (adv v c 1) (by first | exact hW | exact went_step (by decide) hW (show c < (7 * 7) by omega) (by omega)) (by omega) (by first | exact fun j hj => absurd hj (Nat.not_lt_zero j) | exact fun j hj => (by rcases Nat.lt_or_ge j c with q | q; exact hq j q; rw [show j = c by omega]; exact k93)) (by first | omega | (rw [sumN_adv1 _ _ _ _ (show c < (7 * 7) by omega)]; omega))
                        · have k181 : c % 7 < 6 := by rcases Nat.lt_or_ge (c % 7) (6) with q | q; exact q; exact absurd (show nI (6) ≤ nI (c % 7) from nI_le q (by omega)) c_181
                          refine g_aload_n (pc := 184) C 0 rfl rfl dX11_picture_184 ?_
                          refine g_get (pc := 185) C (T := TX11) inX11 0 rfl rfl 6 (by decide) q_293 rfl rfl dX11_picture_185 ?_
                          refine g_iload (pc := 188) C 4 rfl dX11_picture_188 ?_
                          refine g_iconst (pc := 190) (v := 1) C (by decide) dX11_picture_190 ?_
                          refine g_iadd (pc := 191) C dX11_picture_191 ?_
                          refine G.eqs (st' := [.int (nI (c + 1)), .ref q1]) (congrArg (β := List Value) (fun z9 => [.int z9, .ref q1]) (show (((nI c) + 1) : Int32) = (nI (c + 1)) from nI_1 c)) ?_
                          refine g_dup2 (pc := 192) C rfl rfl dX11_picture_192 ?_
                          refine g_iald_n (pc := 193) C (j := (c + 1)) 1 rfl (by omega) (by first | decide | omega) rfl dX11_picture_193 ?_
                          refine g_iconst (pc := 194) (v := 1) C (by decide) dX11_picture_194 ?_
                          refine g_iadd (pc := 195) C dX11_picture_195 ?_
                          refine g_iast_n (pc := 196) C (j := (c + 1)) 1 [(mo, .inr (15, [.ref e0, .ref c1, .ref c2, .ref c3, .ref c4, .ref c5, .ref q1, .int (nI 0), .int (nI 0), .int 0, .int (nI 7), .int 0])), (q1, aI k 49 (upd (fun j9 => nI ((ad (ad (sb g c 4) (c - 7) 1) (c - 1) 1) j9)) (c + 1) (((fun j9 => nI ((ad (ad (sb g c 4) (c - 7) 1) (c - 1) 1) j9)) (c + 1)) + 1)))] rfl (by omega) (by first | decide | omega) rfl rfl dX11_picture_196 ?_
                          refine G.fn (fun j9 => nI ((ad (ad (ad (sb g c 4) (c - 7) 1) (c - 1) 1) (c + 1) 1) j9)) 1 [(mo, .inr (15, [.ref e0, .ref c1, .ref c2, .ref c3, .ref c4, .ref c5, .ref q1, .int (nI 0), .int (nI 0), .int 0, .int (nI 7), .int 0])), (q1, aI k 49 (fun j9 => nI ((ad (ad (ad (sb g c 4) (c - 7) 1) (c - 1) 1) (c + 1) 1) j9)))] rfl (fun j hj => by exact ad_step _ _ _ j) rfl ?_
                          refine g_iinc (pc := 197) (n := 1) (v := (nI ((sumN v (7 * 7)) + 1))) C 3 [(3, .int (nI ((sumN v (7 * 7)) + 1))), (0, .ref mo), (1, .int (nI 7)), (2, .int (nI m)), (4, .int (nI c))] rfl (nI_1 (sumN v (7 * 7))) dX11_picture_197 (by decide) rfl ?_
                          refine g_iconst (pc := 200) (v := (-1)) C (by decide) dX11_picture_200 ?_
                          refine g_istore (pc := 201) C [(4, .int (-1)), (3, .int (nI ((sumN v (7 * 7)) + 1))), (0, .ref mo), (1, .int (nI 7)), (2, .int (nI m))] dX11_picture_201 (by decide) rfl ?_
                          refine g_iinc (pc := 203) (n := 1) (v := ((-1) + 1)) C 0 [(4, .int ((-1) + 1)), (3, .int (nI ((sumN v (7 * 7)) + 1))), (0, .ref mo), (1, .int (nI 7)), (2, .int (nI m))] rfl rfl dX11_picture_203 (by decide) rfl ?_
                          refine g_goto (pc := 206) C 75 (by decide) dX11_picture_206 ?_
                          refine G.loc [2, 3, 4, 1, 0] (lv' := [(0, .ref mo), (1, .int (nI 7)), (2, .int (nI m)), (3, .int (nI ((sumN v (7 * 7)) + 1))), (4, .int ((-1) + 1))]) rfl ?_
                          refine G.fn (fun j9 => nI ((tpl 7 c 1 g) j9)) 1 [(mo, .inr (15, [.ref e0, .ref c1, .ref c2, .ref c3, .ref c4, .ref c5, .ref q1, .int (nI 0), .int (nI 0), .int 0, .int (nI 7), .int 0])), (q1, aI k 49 (fun j9 => nI ((tpl 7 c 1 g) j9)))] rfl (fun j hj => by first | rfl | (exact congrArg nI (by simp only [ad, sb, tpl, nbr]; repeat' (first | omega | split)))) rfl ?_
                          refine G.eql (lv' := [(0, .ref mo), (1, .int (nI 7)), (2, .int (nI m)), (3, .int (nI (sumN (adv v c 1) (7 * 7)))), (4, .int (nI 0))]) ((congrArg (β := List (Nat × Value)) (fun z9 => [(0, .ref mo), (1, .int (nI 7)), (2, .int (nI m)), (3, .int z9), (4, .int ((-1) + 1))]) (show ((nI ((sumN v (7 * 7)) + 1)) : Int32) = (nI (sumN (adv v c 1) (7 * 7))) from by first | rfl | decide | (rw [sumN_adv1 _ _ _ _ (show c < (7 * 7) by omega)]))).trans (congrArg (β := List (Nat × Value)) (fun z9 => [(0, .ref mo), (1, .int (nI 7)), (2, .int (nI m)), (3, .int (nI (sumN (adv v c 1) (7 * 7)))), (4, .int z9)]) (show (((-1) + 1) : Int32) = (nI 0) from by first | rfl | decide | (rw [sumN_adv1 _ _ _ _ (show c < (7 * 7) by omega)])))) ?_
                          exact ih_75 0 (tpl 7 c 1 g) (adv v c 1) (by first | exact hW | exact went_step (by decide) hW (show c < (7 * 7) by omega) (by omega)) (by omega) (by first | exact fun j hj => absurd hj (Nat.not_lt_zero j) | exact fun j hj => (by rcases Nat.lt_or_ge j c with q | q; exact hq j q; rw [show j = c by omega]; exact k93)) (by first | omega | (rw [sumN_adv1 _ _ _ _ (show c < (7 * 7) by omega)]; omega))
                    · have k138 : c + 7 < 49 := by rcases Nat.lt_or_ge (c + 7) (49) with q | q; exact q; exact absurd (show nI (49) ≤ nI (c + 7) from nI_le q (by omega)) c_138
                      refine g_aload_n (pc := 141) C 0 rfl rfl dX11_picture_141 ?_
                      refine g_get (pc := 142) C (T := TX11) inX11 0 rfl rfl 6 (by decide) q_293 rfl rfl dX11_picture_142 ?_
                      refine g_iload (pc := 145) C 4 rfl dX11_picture_145 ?_
                      refine g_iload_n (pc := 147) C 1 rfl rfl dX11_picture_147 ?_
                      refine g_iadd (pc := 148) C dX11_picture_148 ?_
                      refine G.eqs (st' := [.int (nI (c + 7)), .ref q1]) (congrArg (β := List Value) (fun z9 => [.int z9, .ref q1]) (show (((nI c) + (nI 7)) : Int32) = (nI (c + 7)) from nI_add c 7)) ?_
                      refine g_dup2 (pc := 149) C rfl rfl dX11_picture_149 ?_
                      refine g_iald_n (pc := 150) C (j := (c + 7)) 1 rfl (by omega) (by first | decide | omega) rfl dX11_picture_150 ?_
                      refine g_iconst (pc := 151) (v := 1) C (by decide) dX11_picture_151 ?_
                      refine g_iadd (pc := 152) C dX11_picture_152 ?_
                      refine g_iast_n (pc := 153) C (j := (c + 7)) 1 [(mo, .inr (15, [.ref e0, .ref c1, .ref c2, .ref c3, .ref c4, .ref c5, .ref q1, .int (nI 0), .int (nI 0), .int 0, .int (nI 7), .int 0])), (q1, aI k 49 (upd (fun j9 => nI ((ad (sb g c 4) (c - 7) 1) j9)) (c + 7) (((fun j9 => nI ((ad (sb g c 4) (c - 7) 1) j9)) (c + 7)) + 1)))] rfl (by omega) (by first | decide | omega) rfl rfl dX11_picture_153 ?_
                      refine G.fn (fun j9 => nI ((ad (ad (sb g c 4) (c - 7) 1) (c + 7) 1) j9)) 1 [(mo, .inr (15, [.ref e0, .ref c1, .ref c2, .ref c3, .ref c4, .ref c5, .ref q1, .int (nI 0), .int (nI 0), .int 0, .int (nI 7), .int 0])), (q1, aI k 49 (fun j9 => nI ((ad (ad (sb g c 4) (c - 7) 1) (c + 7) 1) j9)))] rfl (fun j hj => by exact ad_step _ _ _ j) rfl ?_
                      refine g_iload (pc := 154) C 4 rfl dX11_picture_154 ?_
                      refine g_iload_n (pc := 156) C 1 rfl rfl dX11_picture_156 ?_
                      refine g_irem (pc := 157) C (by first | assumption | decide) dX11_picture_157 ?_
                      refine G.eqs (st' := [.int (nI (c % 7))]) (congrArg (β := List Value) (fun z9 => [.int z9]) (show (((nI c) - (nI c) / (nI 7) * (nI 7)) : Int32) = (nI (c % 7)) from pk_rem (by omega) (by decide) (by decide))) ?_
                      refine g_if_le (pc := 158) C 174 (by decide) dX11_picture_158 (fun c_158 => ?_) (fun c_158 => ?_)
                      · have k158 : c % 7 = 0 := by rcases Nat.eq_zero_or_pos (c % 7) with q | q; exact q; exact absurd c_158 (nI_nle q (by omega))
                        refine g_iload (pc := 174) C 4 rfl dX11_picture_174 ?_
                        refine g_iload_n (pc := 176) C 1 rfl rfl dX11_picture_176 ?_
                        refine g_irem (pc := 177) C (by first | assumption | decide) dX11_picture_177 ?_
                        refine G.eqs (st' := [.int (nI (c % 7))]) (congrArg (β := List Value) (fun z9 => [.int z9]) (show (((nI c) - (nI c) / (nI 7) * (nI 7)) : Int32) = (nI (c % 7)) from pk_rem (by omega) (by decide) (by decide))) ?_
                        refine g_iload_n (pc := 178) C 1 rfl rfl dX11_picture_178 ?_
                        refine g_iconst (pc := 179) (v := 1) C (by decide) dX11_picture_179 ?_
                        refine g_isub (pc := 180) C dX11_picture_180 ?_
                        refine G.eqs (st' := [.int (nI 6), .int (nI (c % 7))]) (congrArg (β := List Value) (fun z9 => [.int z9, .int (nI (c % 7))]) (show (((nI 7) - 1) : Int32) = (nI 6) from by decide)) ?_
                        refine g_icmp_ge (pc := 181) C 197 (by decide) dX11_picture_181 (fun c_181 => ?_) (fun c_181 => ?_)
                        · have k181 : 6 ≤ c % 7 := by rcases Nat.lt_or_ge (c % 7) (6) with q | q; exact absurd (show nI (6) ≤ nI (c % 7) from c_181) (nI_ge q (by omega)); exact q
                          refine g_iinc (pc := 197) (n := 1) (v := (nI ((sumN v (7 * 7)) + 1))) C 3 [(3, .int (nI ((sumN v (7 * 7)) + 1))), (0, .ref mo), (1, .int (nI 7)), (2, .int (nI m)), (4, .int (nI c))] rfl (nI_1 (sumN v (7 * 7))) dX11_picture_197 (by decide) rfl ?_
                          refine g_iconst (pc := 200) (v := (-1)) C (by decide) dX11_picture_200 ?_
                          refine g_istore (pc := 201) C [(4, .int (-1)), (3, .int (nI ((sumN v (7 * 7)) + 1))), (0, .ref mo), (1, .int (nI 7)), (2, .int (nI m))] dX11_picture_201 (by decide) rfl ?_
                          refine g_iinc (pc := 203) (n := 1) (v := ((-1) + 1)) C 0 [(4, .int ((-1) + 1)), (3, .int (nI ((sumN v (7 * 7)) + 1))), (0, .ref mo), (1, .int (nI 7)), (2, .int (nI m))] rfl rfl dX11_picture_203 (by decide) rfl ?_
                          refine g_goto (pc := 206) C 75 (by decide) dX11_picture_206 ?_
                          refine G.loc [2, 3, 4, 1, 0] (lv' := [(0, .ref mo), (1, .int (nI 7)), (2, .int (nI m)), (3, .int (nI ((sumN v (7 * 7)) + 1))), (4, .int ((-1) + 1))]) rfl ?_
                          refine G.fn (fun j9 => nI ((tpl 7 c 1 g) j9)) 1 [(mo, .inr (15, [.ref e0, .ref c1, .ref c2, .ref c3, .ref c4, .ref c5, .ref q1, .int (nI 0), .int (nI 0), .int 0, .int (nI 7), .int 0])), (q1, aI k 49 (fun j9 => nI ((tpl 7 c 1 g) j9)))] rfl (fun j hj => by first | rfl | (exact congrArg nI (by simp only [ad, sb, tpl, nbr]; repeat' (first | omega | split)))) rfl ?_
                          refine G.eql (lv' := [(0, .ref mo), (1, .int (nI 7)), (2, .int (nI m)), (3, .int (nI (sumN (adv v c 1) (7 * 7)))), (4, .int (nI 0))]) ((congrArg (β := List (Nat × Value)) (fun z9 => [(0, .ref mo), (1, .int (nI 7)), (2, .int (nI m)), (3, .int z9), (4, .int ((-1) + 1))]) (show ((nI ((sumN v (7 * 7)) + 1)) : Int32) = (nI (sumN (adv v c 1) (7 * 7))) from by first | rfl | decide | (rw [sumN_adv1 _ _ _ _ (show c < (7 * 7) by omega)]))).trans (congrArg (β := List (Nat × Value)) (fun z9 => [(0, .ref mo), (1, .int (nI 7)), (2, .int (nI m)), (3, .int (nI (sumN (adv v c 1) (7 * 7)))), (4, .int z9)]) (show (((-1) + 1) : Int32) = (nI 0) from by first | rfl | decide | (rw [sumN_adv1 _ _ _ _ (show c < (7 * 7) by omega)])))) ?_
                          exact ih_75 0 (tpl 7 c 1 g) (adv v c 1) (by first | exact hW | exact went_step (by decide) hW (show c < (7 * 7) by omega) (by omega)) (by omega) (by first | exact fun j hj => absurd hj (Nat.not_lt_zero j) | exact fun j hj => (by rcases Nat.lt_or_ge j c with q | q; exact hq j q; rw [show j = c by omega]; exact k93)) (by first | omega | (rw [sumN_adv1 _ _ _ _ (show c < (7 * 7) by omega)]; omega))
                        · have k181 : c % 7 < 6 := by rcases Nat.lt_or_ge (c % 7) (6) with q | q; exact q; exact absurd (show nI (6) ≤ nI (c % 7) from nI_le q (by omega)) c_181
                          refine g_aload_n (pc := 184) C 0 rfl rfl dX11_picture_184 ?_
                          refine g_get (pc := 185) C (T := TX11) inX11 0 rfl rfl 6 (by decide) q_293 rfl rfl dX11_picture_185 ?_
                          refine g_iload (pc := 188) C 4 rfl dX11_picture_188 ?_
                          refine g_iconst (pc := 190) (v := 1) C (by decide) dX11_picture_190 ?_
                          refine g_iadd (pc := 191) C dX11_picture_191 ?_
                          refine G.eqs (st' := [.int (nI (c + 1)), .ref q1]) (congrArg (β := List Value) (fun z9 => [.int z9, .ref q1]) (show (((nI c) + 1) : Int32) = (nI (c + 1)) from nI_1 c)) ?_
                          refine g_dup2 (pc := 192) C rfl rfl dX11_picture_192 ?_
                          refine g_iald_n (pc := 193) C (j := (c + 1)) 1 rfl (by omega) (by first | decide | omega) rfl dX11_picture_193 ?_
                          refine g_iconst (pc := 194) (v := 1) C (by decide) dX11_picture_194 ?_
                          refine g_iadd (pc := 195) C dX11_picture_195 ?_
                          refine g_iast_n (pc := 196) C (j := (c + 1)) 1 [(mo, .inr (15, [.ref e0, .ref c1, .ref c2, .ref c3, .ref c4, .ref c5, .ref q1, .int (nI 0), .int (nI 0), .int 0, .int (nI 7), .int 0])), (q1, aI k 49 (upd (fun j9 => nI ((ad (ad (sb g c 4) (c - 7) 1) (c + 7) 1) j9)) (c + 1) (((fun j9 => nI ((ad (ad (sb g c 4) (c - 7) 1) (c + 7) 1) j9)) (c + 1)) + 1)))] rfl (by omega) (by first | decide | omega) rfl rfl dX11_picture_196 ?_
                          refine G.fn (fun j9 => nI ((ad (ad (ad (sb g c 4) (c - 7) 1) (c + 7) 1) (c + 1) 1) j9)) 1 [(mo, .inr (15, [.ref e0, .ref c1, .ref c2, .ref c3, .ref c4, .ref c5, .ref q1, .int (nI 0), .int (nI 0), .int 0, .int (nI 7), .int 0])), (q1, aI k 49 (fun j9 => nI ((ad (ad (ad (sb g c 4) (c - 7) 1) (c + 7) 1) (c + 1) 1) j9)))] rfl (fun j hj => by exact ad_step _ _ _ j) rfl ?_
                          refine g_iinc (pc := 197) (n := 1) (v := (nI ((sumN v (7 * 7)) + 1))) C 3 [(3, .int (nI ((sumN v (7 * 7)) + 1))), (0, .ref mo), (1, .int (nI 7)), (2, .int (nI m)), (4, .int (nI c))] rfl (nI_1 (sumN v (7 * 7))) dX11_picture_197 (by decide) rfl ?_
                          refine g_iconst (pc := 200) (v := (-1)) C (by decide) dX11_picture_200 ?_
                          refine g_istore (pc := 201) C [(4, .int (-1)), (3, .int (nI ((sumN v (7 * 7)) + 1))), (0, .ref mo), (1, .int (nI 7)), (2, .int (nI m))] dX11_picture_201 (by decide) rfl ?_
                          refine g_iinc (pc := 203) (n := 1) (v := ((-1) + 1)) C 0 [(4, .int ((-1) + 1)), (3, .int (nI ((sumN v (7 * 7)) + 1))), (0, .ref mo), (1, .int (nI 7)), (2, .int (nI m))] rfl rfl dX11_picture_203 (by decide) rfl ?_
                          refine g_goto (pc := 206) C 75 (by decide) dX11_picture_206 ?_
                          refine G.loc [2, 3, 4, 1, 0] (lv' := [(0, .ref mo), (1, .int (nI 7)), (2, .int (nI m)), (3, .int (nI ((sumN v (7 * 7)) + 1))), (4, .int ((-1) + 1))]) rfl ?_
                          refine G.fn (fun j9 => nI ((tpl 7 c 1 g) j9)) 1 [(mo, .inr (15, [.ref e0, .ref c1, .ref c2, .ref c3, .ref c4, .ref c5, .ref q1, .int (nI 0), .int (nI 0), .int 0, .int (nI 7), .int 0])), (q1, aI k 49 (fun j9 => nI ((tpl 7 c 1 g) j9)))] rfl (fun j hj => by first | rfl | (exact congrArg nI (by simp only [ad, sb, tpl, nbr]; repeat' (first | omega | split)))) rfl ?_
                          refine G.eql (lv' := [(0, .ref mo), (1, .int (nI 7)), (2, .int (nI m)), (3, .int (nI (sumN (adv v c 1) (7 * 7)))), (4, .int (nI 0))]) ((congrArg (β := List (Nat × Value)) (fun z9 => [(0, .ref mo), (1, .int (nI 7)), (2, .int (nI m)), (3, .int z9), (4, .int ((-1) + 1))]) (show ((nI ((sumN v (7 * 7)) + 1)) : Int32) = (nI (sumN (adv v c 1) (7 * 7))) from by first | rfl | decide | (rw [sumN_adv1 _ _ _ _ (show c < (7 * 7) by omega)]))).trans (congrArg (β := List (Nat × Value)) (fun z9 => [(0, .ref mo), (1, .int (nI 7)), (2, .int (nI m)), (3, .int (nI (sumN (adv v c 1) (7 * 7)))), (4, .int z9)]) (show (((-1) + 1) : Int32) = (nI 0) from by first | rfl | decide | (rw [sumN_adv1 _ _ _ _ (show c < (7 * 7) by omega)])))) ?_
                          exact ih_75 0 (tpl 7 c 1 g) (adv v c 1) (by first | exact hW | exact went_step (by decide) hW (show c < (7 * 7) by omega) (by omega)) (by omega) (by first | exact fun j hj => absurd hj (Nat.not_lt_zero j) | exact fun j hj => (by rcases Nat.lt_or_ge j c with q | q; exact hq j q; rw [show j = c by omega]; exact k93)) (by first | omega | (rw [sumN_adv1 _ _ _ _ (show c < (7 * 7) by omega)]; omega))
                      · have k158 : 0 < c % 7 := by rcases Nat.eq_zero_or_pos (c % 7) with q | q; rw [q] at c_158; exact absurd (show nI 0 ≤ 0 by decide) c_158; exact q
                        refine g_aload_n (pc := 161) C 0 rfl rfl dX11_picture_161 ?_
                        refine g_get (pc := 162) C (T := TX11) inX11 0 rfl rfl 6 (by decide) q_293 rfl rfl dX11_picture_162 ?_
                        refine g_iload (pc := 165) C 4 rfl dX11_picture_165 ?_
                        refine g_iconst (pc := 167) (v := 1) C (by decide) dX11_picture_167 ?_
                        refine g_isub (pc := 168) C dX11_picture_168 ?_
                        refine G.eqs (st' := [.int (nI (c - 1)), .ref q1]) (congrArg (β := List Value) (fun z9 => [.int z9, .ref q1]) (show (((nI c) - 1) : Int32) = (nI (c - 1)) from by rw [show (1 : Int32) = nI 1 from rfl]; exact pk_sub (by omega))) ?_
                        refine g_dup2 (pc := 169) C rfl rfl dX11_picture_169 ?_
                        refine g_iald_n (pc := 170) C (j := (c - 1)) 1 rfl (by omega) (by first | decide | omega) rfl dX11_picture_170 ?_
                        refine g_iconst (pc := 171) (v := 1) C (by decide) dX11_picture_171 ?_
                        refine g_iadd (pc := 172) C dX11_picture_172 ?_
                        refine g_iast_n (pc := 173) C (j := (c - 1)) 1 [(mo, .inr (15, [.ref e0, .ref c1, .ref c2, .ref c3, .ref c4, .ref c5, .ref q1, .int (nI 0), .int (nI 0), .int 0, .int (nI 7), .int 0])), (q1, aI k 49 (upd (fun j9 => nI ((ad (ad (sb g c 4) (c - 7) 1) (c + 7) 1) j9)) (c - 1) (((fun j9 => nI ((ad (ad (sb g c 4) (c - 7) 1) (c + 7) 1) j9)) (c - 1)) + 1)))] rfl (by omega) (by first | decide | omega) rfl rfl dX11_picture_173 ?_
                        refine G.fn (fun j9 => nI ((ad (ad (ad (sb g c 4) (c - 7) 1) (c + 7) 1) (c - 1) 1) j9)) 1 [(mo, .inr (15, [.ref e0, .ref c1, .ref c2, .ref c3, .ref c4, .ref c5, .ref q1, .int (nI 0), .int (nI 0), .int 0, .int (nI 7), .int 0])), (q1, aI k 49 (fun j9 => nI ((ad (ad (ad (sb g c 4) (c - 7) 1) (c + 7) 1) (c - 1) 1) j9)))] rfl (fun j hj => by exact ad_step _ _ _ j) rfl ?_
                        refine g_iload (pc := 174) C 4 rfl dX11_picture_174 ?_
                        refine g_iload_n (pc := 176) C 1 rfl rfl dX11_picture_176 ?_
                        refine g_irem (pc := 177) C (by first | assumption | decide) dX11_picture_177 ?_
                        refine G.eqs (st' := [.int (nI (c % 7))]) (congrArg (β := List Value) (fun z9 => [.int z9]) (show (((nI c) - (nI c) / (nI 7) * (nI 7)) : Int32) = (nI (c % 7)) from pk_rem (by omega) (by decide) (by decide))) ?_
                        refine g_iload_n (pc := 178) C 1 rfl rfl dX11_picture_178 ?_
                        refine g_iconst (pc := 179) (v := 1) C (by decide) dX11_picture_179 ?_
                        refine g_isub (pc := 180) C dX11_picture_180 ?_
                        refine G.eqs (st' := [.int (nI 6), .int (nI (c % 7))]) (congrArg (β := List Value) (fun z9 => [.int z9, .int (nI (c % 7))]) (show (((nI 7) - 1) : Int32) = (nI 6) from by decide)) ?_
                        refine g_icmp_ge (pc := 181) C 197 (by decide) dX11_picture_181 (fun c_181 => ?_) (fun c_181 => ?_)
                        · have k181 : 6 ≤ c % 7 := by rcases Nat.lt_or_ge (c % 7) (6) with q | q; exact absurd (show nI (6) ≤ nI (c % 7) from c_181) (nI_ge q (by omega)); exact q
                          refine g_iinc (pc := 197) (n := 1) (v := (nI ((sumN v (7 * 7)) + 1))) C 3 [(3, .int (nI ((sumN v (7 * 7)) + 1))), (0, .ref mo), (1, .int (nI 7)), (2, .int (nI m)), (4, .int (nI c))] rfl (nI_1 (sumN v (7 * 7))) dX11_picture_197 (by decide) rfl ?_
                          refine g_iconst (pc := 200) (v := (-1)) C (by decide) dX11_picture_200 ?_
                          refine g_istore (pc := 201) C [(4, .int (-1)), (3, .int (nI ((sumN v (7 * 7)) + 1))), (0, .ref mo), (1, .int (nI 7)), (2, .int (nI m))] dX11_picture_201 (by decide) rfl ?_
                          refine g_iinc (pc := 203) (n := 1) (v := ((-1) + 1)) C 0 [(4, .int ((-1) + 1)), (3, .int (nI ((sumN v (7 * 7)) + 1))), (0, .ref mo), (1, .int (nI 7)), (2, .int (nI m))] rfl rfl dX11_picture_203 (by decide) rfl ?_
                          refine g_goto (pc := 206) C 75 (by decide) dX11_picture_206 ?_
                          refine G.loc [2, 3, 4, 1, 0] (lv' := [(0, .ref mo), (1, .int (nI 7)), (2, .int (nI m)), (3, .int (nI ((sumN v (7 * 7)) + 1))), (4, .int ((-1) + 1))]) rfl ?_
                          refine G.fn (fun j9 => nI ((tpl 7 c 1 g) j9)) 1 [(mo, .inr (15, [.ref e0, .ref c1, .ref c2, .ref c3, .ref c4, .ref c5, .ref q1, .int (nI 0), .int (nI 0), .int 0, .int (nI 7), .int 0])), (q1, aI k 49 (fun j9 => nI ((tpl 7 c 1 g) j9)))] rfl (fun j hj => by first | rfl | (exact congrArg nI (by simp only [ad, sb, tpl, nbr]; repeat' (first | omega | split)))) rfl ?_
                          refine G.eql (lv' := [(0, .ref mo), (1, .int (nI 7)), (2, .int (nI m)), (3, .int (nI (sumN (adv v c 1) (7 * 7)))), (4, .int (nI 0))]) ((congrArg (β := List (Nat × Value)) (fun z9 => [(0, .ref mo), (1, .int (nI 7)), (2, .int (nI m)), (3, .int z9), (4, .int ((-1) + 1))]) (show ((nI ((sumN v (7 * 7)) + 1)) : Int32) = (nI (sumN (adv v c 1) (7 * 7))) from by first | rfl | decide | (rw [sumN_adv1 _ _ _ _ (show c < (7 * 7) by omega)]))).trans (congrArg (β := List (Nat × Value)) (fun z9 => [(0, .ref mo), (1, .int (nI 7)), (2, .int (nI m)), (3, .int (nI (sumN (adv v c 1) (7 * 7)))), (4, .int z9)]) (show (((-1) + 1) : Int32) = (nI 0) from by first | rfl | decide | (rw [sumN_adv1 _ _ _ _ (show c < (7 * 7) by omega)])))) ?_
                          exact ih_75 0 (tpl 7 c 1 g) (adv v c 1) (by first | exact hW | exact went_step (by decide) hW (show c < (7 * 7) by omega) (by omega)) (by omega) (by first | exact fun j hj => absurd hj (Nat.not_lt_zero j) | exact fun j hj => (by rcases Nat.lt_or_ge j c with q | q; exact hq j q; rw [show j = c by omega]; exact k93)) (by first | omega | (rw [sumN_adv1 _ _ _ _ (show c < (7 * 7) by omega)]; omega))
                        · have k181 : c % 7 < 6 := by rcases Nat.lt_or_ge (c % 7) (6) with q | q; exact q; exact absurd (show nI (6) ≤ nI (c % 7) from nI_le q (by omega)) c_181
                          refine g_aload_n (pc := 184) C 0 rfl rfl dX11_picture_184 ?_
                          refine g_get (pc := 185) C (T := TX11) inX11 0 rfl rfl 6 (by decide) q_293 rfl rfl dX11_picture_185 ?_
                          refine g_iload (pc := 188) C 4 rfl dX11_picture_188 ?_
                          refine g_iconst (pc := 190) (v := 1) C (by decide) dX11_picture_190 ?_
                          refine g_iadd (pc := 191) C dX11_picture_191 ?_
                          refine G.eqs (st' := [.int (nI (c + 1)), .ref q1]) (congrArg (β := List Value) (fun z9 => [.int z9, .ref q1]) (show (((nI c) + 1) : Int32) = (nI (c + 1)) from nI_1 c)) ?_
                          refine g_dup2 (pc := 192) C rfl rfl dX11_picture_192 ?_
                          refine g_iald_n (pc := 193) C (j := (c + 1)) 1 rfl (by omega) (by first | decide | omega) rfl dX11_picture_193 ?_
                          refine g_iconst (pc := 194) (v := 1) C (by decide) dX11_picture_194 ?_
                          refine g_iadd (pc := 195) C dX11_picture_195 ?_
                          refine g_iast_n (pc := 196) C (j := (c + 1)) 1 [(mo, .inr (15, [.ref e0, .ref c1, .ref c2, .ref c3, .ref c4, .ref c5, .ref q1, .int (nI 0), .int (nI 0), .int 0, .int (nI 7), .int 0])), (q1, aI k 49 (upd (fun j9 => nI ((ad (ad (ad (sb g c 4) (c - 7) 1) (c + 7) 1) (c - 1) 1) j9)) (c + 1) (((fun j9 => nI ((ad (ad (ad (sb g c 4) (c - 7) 1) (c + 7) 1) (c - 1) 1) j9)) (c + 1)) + 1)))] rfl (by omega) (by first | decide | omega) rfl rfl dX11_picture_196 ?_
                          refine G.fn (fun j9 => nI ((ad (ad (ad (ad (sb g c 4) (c - 7) 1) (c + 7) 1) (c - 1) 1) (c + 1) 1) j9)) 1 [(mo, .inr (15, [.ref e0, .ref c1, .ref c2, .ref c3, .ref c4, .ref c5, .ref q1, .int (nI 0), .int (nI 0), .int 0, .int (nI 7), .int 0])), (q1, aI k 49 (fun j9 => nI ((ad (ad (ad (ad (sb g c 4) (c - 7) 1) (c + 7) 1) (c - 1) 1) (c + 1) 1) j9)))] rfl (fun j hj => by exact ad_step _ _ _ j) rfl ?_
                          refine g_iinc (pc := 197) (n := 1) (v := (nI ((sumN v (7 * 7)) + 1))) C 3 [(3, .int (nI ((sumN v (7 * 7)) + 1))), (0, .ref mo), (1, .int (nI 7)), (2, .int (nI m)), (4, .int (nI c))] rfl (nI_1 (sumN v (7 * 7))) dX11_picture_197 (by decide) rfl ?_
                          refine g_iconst (pc := 200) (v := (-1)) C (by decide) dX11_picture_200 ?_
                          refine g_istore (pc := 201) C [(4, .int (-1)), (3, .int (nI ((sumN v (7 * 7)) + 1))), (0, .ref mo), (1, .int (nI 7)), (2, .int (nI m))] dX11_picture_201 (by decide) rfl ?_
                          refine g_iinc (pc := 203) (n := 1) (v := ((-1) + 1)) C 0 [(4, .int ((-1) + 1)), (3, .int (nI ((sumN v (7 * 7)) + 1))), (0, .ref mo), (1, .int (nI 7)), (2, .int (nI m))] rfl rfl dX11_picture_203 (by decide) rfl ?_
                          refine g_goto (pc := 206) C 75 (by decide) dX11_picture_206 ?_
                          refine G.loc [2, 3, 4, 1, 0] (lv' := [(0, .ref mo), (1, .int (nI 7)), (2, .int (nI m)), (3, .int (nI ((sumN v (7 * 7)) + 1))), (4, .int ((-1) + 1))]) rfl ?_
                          refine G.fn (fun j9 => nI ((tpl 7 c 1 g) j9)) 1 [(mo, .inr (15, [.ref e0, .ref c1, .ref c2, .ref c3, .ref c4, .ref c5, .ref q1, .int (nI 0), .int (nI 0), .int 0, .int (nI 7), .int 0])), (q1, aI k 49 (fun j9 => nI ((tpl 7 c 1 g) j9)))] rfl (fun j hj => by first | rfl | (exact congrArg nI (by simp only [ad, sb, tpl, nbr]; repeat' (first | omega | split)))) rfl ?_
                          refine G.eql (lv' := [(0, .ref mo), (1, .int (nI 7)), (2, .int (nI m)), (3, .int (nI (sumN (adv v c 1) (7 * 7)))), (4, .int (nI 0))]) ((congrArg (β := List (Nat × Value)) (fun z9 => [(0, .ref mo), (1, .int (nI 7)), (2, .int (nI m)), (3, .int z9), (4, .int ((-1) + 1))]) (show ((nI ((sumN v (7 * 7)) + 1)) : Int32) = (nI (sumN (adv v c 1) (7 * 7))) from by first | rfl | decide | (rw [sumN_adv1 _ _ _ _ (show c < (7 * 7) by omega)]))).trans (congrArg (β := List (Nat × Value)) (fun z9 => [(0, .ref mo), (1, .int (nI 7)), (2, .int (nI m)), (3, .int (nI (sumN (adv v c 1) (7 * 7)))), (4, .int z9)]) (show (((-1) + 1) : Int32) = (nI 0) from by first | rfl | decide | (rw [sumN_adv1 _ _ _ _ (show c < (7 * 7) by omega)])))) ?_
                          exact ih_75 0 (tpl 7 c 1 g) (adv v c 1) (by first | exact hW | exact went_step (by decide) hW (show c < (7 * 7) by omega) (by omega)) (by omega) (by first | exact fun j hj => absurd hj (Nat.not_lt_zero j) | exact fun j hj => (by rcases Nat.lt_or_ge j c with q | q; exact hq j q; rw [show j = c by omega]; exact k93)) (by first | omega | (rw [sumN_adv1 _ _ _ _ (show c < (7 * 7) by omega)]; omega))
                · have k93 : g c < 4 := by rcases Nat.lt_or_ge (g c) (4) with q | q; exact q; exact absurd (show nI (4) ≤ nI (g c) from nI_le q (by omega)) c_93
                  refine g_goto (pc := 96) C 203 (by decide) dX11_picture_96 ?_
                  refine g_iinc (pc := 203) (n := 1) (v := (nI (c + 1))) C 4 [(4, .int (nI (c + 1))), (0, .ref mo), (1, .int (nI 7)), (2, .int (nI m)), (3, .int (nI (sumN v (7 * 7))))] rfl (nI_1 c) dX11_picture_203 (by decide) rfl ?_
                  refine g_goto (pc := 206) C 75 (by decide) dX11_picture_206 ?_
                  refine G.loc [1, 2, 3, 4, 0] (lv' := [(0, .ref mo), (1, .int (nI 7)), (2, .int (nI m)), (3, .int (nI (sumN v (7 * 7)))), (4, .int (nI (c + 1)))]) rfl ?_
                  exact ih_75 (c + 1) g v (by first | exact hW | exact went_step (by decide) hW (show c < (7 * 7) by omega) (by omega)) (by omega) (by first | exact fun j hj => absurd hj (Nat.not_lt_zero j) | exact fun j hj => (by rcases Nat.lt_or_ge j c with q | q; exact hq j q; rw [show j = c by omega]; exact k93)) (by first | omega | (rw [sumN_adv1 _ _ _ _ (show c < (7 * 7) by omega)]; omega))
          refine G.loc [2, 3, 4, 1, 0] (lv' := [(0, .ref mo), (1, .int (nI 7)), (2, .int (nI m)), (3, .int 0), (4, .int 0)]) rfl ?_
          refine G.eql (lv' := [(0, .ref mo), (1, .int (nI 7)), (2, .int (nI m)), (3, .int (nI (sumN (fun _ => 0) (7 * 7)))), (4, .int (nI 0))]) ((congrArg (β := List (Nat × Value)) (fun z9 => [(0, .ref mo), (1, .int (nI 7)), (2, .int (nI m)), (3, .int z9), (4, .int 0)]) (show (0 : Int32) = (nI (sumN (fun _ => 0) (7 * 7))) from by first | rfl | exact nI_0.symm | (rw [sumN_0]; exact nI_0.symm))).trans (congrArg (β := List (Nat × Value)) (fun z9 => [(0, .ref mo), (1, .int (nI 7)), (2, .int (nI m)), (3, .int (nI (sumN (fun _ => 0) (7 * 7)))), (4, .int z9)]) (show (0 : Int32) = (nI 0) from by first | rfl | exact nI_0.symm | (rw [sumN_0]; exact nI_0.symm)))) ?_
          exact key_75 ((1130 - sumN (fun _ => 0) (7 * 7)) * 50 + (49 - 0) + 1) 0 (fm 7 m) (fun _ => 0) (went_0 7 _) (by omega) (fun j hj => absurd hj (Nat.not_lt_zero j)) (Nat.lt_succ_self _)
        · exact absurd c_40 (by decide)
      · exact absurd c_25 (by decide)
set_option maxRecDepth 100000 in
set_option maxHeartbeats 4000000 in
theorem c_X11_picture_s9 {l : Launch} {D : va_G} {k : Nat → ClassId} (mo : Nat) (e0 : Nat) (c1 : Nat) (c2 : Nat) (c3 : Nat) (c4 : Nat) (c5 : Nat) (th : Int32) (m : Nat) (hmm : m ≤ 300) : CM l D k yX11_picture cX11_picture 5 (some .int)  1 22 [.ref mo, .int (nI 9), .int (nI m)] [(mo, .inr (15, [.ref e0, .ref c1, .ref c2, .ref c3, .ref c4, .ref c5, .null, .int (nI 0), .int (nI 0), .int 0, .int 0, .int th]))] (fun rv9 w9 => rv9 = (some (.int (nI (picN 9 (fm 9 m))))) ∧ ∃ (qq : Nat) (gg : Nat → Int32), w9 = [(mo, .inr (15, [.ref e0, .ref c1, .ref c2, .ref c3, .ref c4, .ref c5, .ref qq, .int (nI 0), .int (nI 0), .int 0, .int (nI 9), .int 0])), (qq, aI k 81 gg)]) 1 81 1 := by
  refine CM.of (lv0 := [(0, .ref mo), (1, .int (nI 9)), (2, .int (nI m))]) (by decide +kernel) (Nat.le_of_ble_eq_true rfl) rfl ?_
  intro p9 e9 s9 m9 bl9 me9 co9 C hr hlk hin had
  refine g_aload_n (pc := 0) C 0 rfl rfl dX11_picture_0 ?_
  refine g_iload_n (pc := 1) C 1 rfl rfl dX11_picture_1 ?_
  refine g_iconst (pc := 2) (v := 3) C (by decide) dX11_picture_2 ?_
  refine g_bipush (pc := 3) (v := 9) C (by decide) dX11_picture_3 ?_
  refine g_callS (pc := 5) (cells := 0) (slots := 0) (g := 0) (As := [.int (nI 9), .int 3, .int 9]) (st := [.ref mo]) (b := 0) C (nA := 3) rfl (c_X11_in (nI 9) 3 9 ) q_266 q_267 q_265 q_264 (by decide +kernel) dX11_picture_5 ⟨Nat.le_of_ble_eq_true rfl, Nat.le_of_ble_eq_true rfl⟩ [] [0] rfl (wr := [(mo, .inr (15, [.ref e0, .ref c1, .ref c2, .ref c3, .ref c4, .ref c5, .null, .int (nI 0), .int (nI 0), .int 0, .int 0, .int th]))]) rfl (by decide) (by decide) (by decide) (Nat.le_of_ble_eq_true rfl) ⟨Nat.le_of_ble_eq_true rfl, Nat.le_of_ble_eq_true rfl⟩ (fun rv w1 h1 => ?_)
  obtain ⟨rfl, rfl⟩ := h1
  refine G.aft [0] (ws' := [(mo, .inr (15, [.ref e0, .ref c1, .ref c2, .ref c3, .ref c4, .ref c5, .null, .int (nI 0), .int (nI 0), .int 0, .int 0, .int th]))]) (st' := [.int (bI (inR (nI 9) 3 9)), .ref mo]) (cells' := 0) (slots' := 0) (g' := 0) (by decide) rfl rfl rfl rfl rfl ?_
  refine G.eqs (st' := [.int 1, .ref mo]) (congrArg (β := List Value) (fun z9 => [.int z9, .ref mo]) (show ((bI (inR (nI 9) 3 9)) : Int32) = 1 from by decide)) ?_
  refine g_if_eq (pc := 8) C 28 (by decide) dX11_picture_8 (fun c_8 => ?_) (fun c_8 => ?_)
  · exact absurd c_8 (by decide)
  · refine g_iload_n (pc := 11) C 1 rfl rfl dX11_picture_11 ?_
    refine g_iconst (pc := 12) (v := 2) C (by decide) dX11_picture_12 ?_
    refine g_irem (pc := 13) C (by first | assumption | decide) dX11_picture_13 ?_
    refine G.eqs (st' := [.int 1, .ref mo]) (congrArg (β := List Value) (fun z9 => [.int z9, .ref mo]) (show (((nI 9) - (nI 9) / 2 * 2) : Int32) = 1 from by decide)) ?_
    refine g_if_eq (pc := 14) C 28 (by decide) dX11_picture_14 (fun c_14 => ?_) (fun c_14 => ?_)
    · exact absurd c_14 (by decide)
    · refine g_iload_n (pc := 17) C 2 rfl rfl dX11_picture_17 ?_
      refine g_iconst (pc := 18) (v := 0) C (by decide) dX11_picture_18 ?_
      refine g_sipush (pc := 19) (v := 300) C (by decide) dX11_picture_19 ?_
      refine g_callS (pc := 22) (cells := 0) (slots := 0) (g := 0) (As := [.int (nI m), .int 0, .int 300]) (st := [.ref mo]) (b := 0) C (nA := 3) rfl (c_X11_in (nI m) 0 300 ) q_266 q_267 q_265 q_264 (by decide +kernel) dX11_picture_22 ⟨Nat.le_of_ble_eq_true rfl, Nat.le_of_ble_eq_true rfl⟩ [] [0] rfl (wr := [(mo, .inr (15, [.ref e0, .ref c1, .ref c2, .ref c3, .ref c4, .ref c5, .null, .int (nI 0), .int (nI 0), .int 0, .int 0, .int th]))]) rfl (by decide) (by decide) (by decide) (Nat.le_of_ble_eq_true rfl) ⟨Nat.le_of_ble_eq_true rfl, Nat.le_of_ble_eq_true rfl⟩ (fun rv w1 h1 => ?_)
      obtain ⟨rfl, rfl⟩ := h1
      refine G.aft [0] (ws' := [(mo, .inr (15, [.ref e0, .ref c1, .ref c2, .ref c3, .ref c4, .ref c5, .null, .int (nI 0), .int (nI 0), .int 0, .int 0, .int th]))]) (st' := [.int (bI (inR (nI m) 0 300)), .ref mo]) (cells' := 0) (slots' := 0) (g' := 0) (by decide) rfl rfl rfl rfl rfl ?_
      refine G.eqs (st' := [.int 1, .ref mo]) (congrArg (β := List Value) (fun z9 => [.int z9, .ref mo]) (show ((bI (inR (nI m) 0 300)) : Int32) = 1 from by rw [inR_m hmm]; rfl)) ?_
      refine g_if_ne (pc := 25) C 32 (by decide) dX11_picture_25 (fun c_25 => ?_) (fun c_25 => ?_)
      · refine g_iconst (pc := 32) (v := 0) C (by decide) dX11_picture_32 ?_
        refine g_put (pc := 33) C (T := TX11) inX11 0 rfl rfl 11 (by decide) q_262 rfl tyX11 tyX11_ok nmX11 rfl [(mo, .inr (15, [.ref e0, .ref c1, .ref c2, .ref c3, .ref c4, .ref c5, .null, .int (nI 0), .int (nI 0), .int 0, .int 0, .int 0]))] (tyX11_ok 11 (by decide)) rfl (by rfl) (Nat.le_of_ble_eq_true rfl) rfl dX11_picture_33 ?_
        refine g_aload_n (pc := 36) C 0 rfl rfl dX11_picture_36 ?_
        refine g_get (pc := 37) C (T := TX11) inX11 0 rfl rfl 11 (by decide) q_262 rfl rfl dX11_picture_37 ?_
        refine g_if_le (pc := 40) C 45 (by decide) dX11_picture_40 (fun c_40 => ?_) (fun c_40 => ?_)
        · refine g_aload_n (pc := 45) C 0 rfl rfl dX11_picture_45 ?_
          refine g_iload_n (pc := 46) C 1 rfl rfl dX11_picture_46 ?_
          refine g_put (pc := 47) C (T := TX11) inX11 0 rfl rfl 10 (by decide) q_303 rfl tyX11 tyX11_ok nmX11 rfl [(mo, .inr (15, [.ref e0, .ref c1, .ref c2, .ref c3, .ref c4, .ref c5, .null, .int (nI 0), .int (nI 0), .int 0, .int (nI 9), .int 0]))] (tyX11_ok 10 (by decide)) rfl (by rfl) (Nat.le_of_ble_eq_true rfl) rfl dX11_picture_47 ?_
          refine g_aload_n (pc := 50) C 0 rfl rfl dX11_picture_50 ?_
          refine g_iload_n (pc := 51) C 1 rfl rfl dX11_picture_51 ?_
          refine g_iload_n (pc := 52) C 1 rfl rfl dX11_picture_52 ?_
          refine g_imul (pc := 53) C dX11_picture_53 ?_
          refine g_newI (pc := 54) (cells := 0) (slots := 0) (g := 0) C 81 q_4 (by decide) (by decide) (Nat.le_of_ble_eq_true rfl) (Nat.le_of_ble_eq_true rfl) (Nat.le_of_ble_eq_true rfl) dX11_picture_54 (fun q1 => ?_)
          refine G.eqw (ws' := [(mo, .inr (15, [.ref e0, .ref c1, .ref c2, .ref c3, .ref c4, .ref c5, .null, .int (nI 0), .int (nI 0), .int 0, .int (nI 9), .int 0])), (q1, aI k 81 (fun _ => 0))]) rfl ?_
          refine g_put (pc := 56) C (T := TX11) inX11 0 rfl rfl 6 (by decide) q_293 rfl tyX11 tyX11_ok nmX11 rfl [(mo, .inr (15, [.ref e0, .ref c1, .ref c2, .ref c3, .ref c4, .ref c5, .ref q1, .int (nI 0), .int (nI 0), .int 0, .int (nI 9), .int 0])), (q1, aI k 81 (fun _ => 0))] (tyX11_ok 6 (by decide)) rfl rfl (Nat.le_of_ble_eq_true rfl) rfl dX11_picture_56 ?_
          refine g_aload_n (pc := 59) C 0 rfl rfl dX11_picture_59 ?_
          refine g_get (pc := 60) C (T := TX11) inX11 0 rfl rfl 6 (by decide) q_293 rfl rfl dX11_picture_60 ?_
          refine g_iload_n (pc := 63) C 1 rfl rfl dX11_picture_63 ?_
          refine g_iload_n (pc := 64) C 1 rfl rfl dX11_picture_64 ?_
          refine g_imul (pc := 65) C dX11_picture_65 ?_
          refine g_iconst (pc := 66) (v := 2) C (by decide) dX11_picture_66 ?_
          refine g_idiv (pc := 67) C (by first | assumption | decide) dX11_picture_67 ?_
          refine G.eqs (st' := [.int (nI 40), .ref q1]) (congrArg (β := List Value) (fun z9 => [.int z9, .ref q1]) (show ((((nI 9) * (nI 9)) / 2) : Int32) = (nI 40) from by decide)) ?_
          refine g_iload_n (pc := 68) C 2 rfl rfl dX11_picture_68 ?_
          refine g_iast_n (pc := 69) C (j := 40) 1 [(mo, .inr (15, [.ref e0, .ref c1, .ref c2, .ref c3, .ref c4, .ref c5, .ref q1, .int (nI 0), .int (nI 0), .int 0, .int (nI 9), .int 0])), (q1, aI k 81 (upd (fun _ => 0) 40 (nI m)))] rfl (by omega) (by first | decide | omega) rfl rfl dX11_picture_69 ?_
          refine G.fn (fun j9 => nI ((fm 9 m) j9)) 1 [(mo, .inr (15, [.ref e0, .ref c1, .ref c2, .ref c3, .ref c4, .ref c5, .ref q1, .int (nI 0), .int (nI 0), .int 0, .int (nI 9), .int 0])), (q1, aI k 81 (fun j9 => nI ((fm 9 m) j9)))] rfl (fun j hj => by { show upd (fun _ => 0) 40 (nI m) j = nI (if j = 40 then m else 0); unfold upd; by_cases h : j = 40 <;> simp [h, nI_0] }) rfl ?_
          refine g_iconst (pc := 70) (v := 0) C (by decide) dX11_picture_70 ?_
          refine g_istore_n (pc := 71) C [(3, .int 0), (0, .ref mo), (1, .int (nI 9)), (2, .int (nI m))] rfl dX11_picture_71 (by decide) rfl ?_
          refine g_iconst (pc := 72) (v := 0) C (by decide) dX11_picture_72 ?_
          refine g_istore (pc := 73) C [(4, .int 0), (3, .int 0), (0, .ref mo), (1, .int (nI 9)), (2, .int (nI m))] dX11_picture_73 (by decide) rfl ?_
          have key_75 : ∀ (fuel : Nat) (c : Nat) (g : Nat → Nat) (v : Nat → Nat), Went 9 (fm 9 m) g v → c ≤ 81 → (∀ j, j < c → g j < 4) → (1520 - sumN v (9 * 9)) * 82 + (81 - c) < fuel → G p9 l e9 { frames := 1, cells := 1, slots := 81, locals := 22 } s9 m9 ([.ref mo, .int (nI 9), .int (nI m)] : List Value).toArray bl9 me9 co9 D 5 (va_A [(mo, .inr (15, [.ref e0, .ref c1, .ref c2, .ref c3, .ref c4, .ref c5, .null, .int (nI 0), .int (nI 0), .int 0, .int 0, .int th]))] s9.heap.size) (QM bl9 D ([.ref mo, .int (nI 9), .int (nI m)] : List Value).toArray s9 [(mo, .inr (15, [.ref e0, .ref c1, .ref c2, .ref c3, .ref c4, .ref c5, .null, .int (nI 0), .int (nI 0), .int 0, .int 0, .int th]))] (fun rv9 w9 => rv9 = (some (.int (nI (picN 9 (fm 9 m))))) ∧ ∃ (qq : Nat) (gg : Nat → Int32), w9 = [(mo, .inr (15, [.ref e0, .ref c1, .ref c2, .ref c3, .ref c4, .ref c5, .ref qq, .int (nI 0), .int (nI 0), .int 0, .int (nI 9), .int 0])), (qq, aI k 81 gg)]) 1 81 1) [(mo, .inr (15, [.ref e0, .ref c1, .ref c2, .ref c3, .ref c4, .ref c5, .ref q1, .int (nI 0), .int (nI 0), .int 0, .int (nI 9), .int 0])), (q1, aI k 81 (fun j9 => nI (g j9)))] [(0, .ref mo), (1, .int (nI 9)), (2, .int (nI m)), (3, .int (nI (sumN v (9 * 9)))), (4, .int (nI c))] 1 81 1 75 [] := by
            intro fuel
            induction fuel with
            | zero => intro c g v hW hc hq hm; exact absurd hm (Nat.not_lt_zero _)
            | succ fuel ih =>
              intro c g v hW hc hq hm
              have ih_75 := ih
              have hsum := went_sum hmm hW pw9_s
              rw [pw9_n] at hsum
              have hbnd := went_bnd hmm hW pw9_s pw9_b
              refine g_iload (pc := 75) C 4 rfl dX11_picture_75 ?_
              refine g_aload_n (pc := 77) C 0 rfl rfl dX11_picture_77 ?_
              refine g_get (pc := 78) C (T := TX11) inX11 0 rfl rfl 6 (by decide) q_293 rfl rfl dX11_picture_78 ?_
              refine g_alen (pc := 81) C 1 rfl (t0 := 0) rfl (v := (nI 81)) rfl dX11_picture_81 ?_
              refine g_icmp_ge (pc := 82) C 209 (by decide) dX11_picture_82 (fun c_82 => ?_) (fun c_82 => ?_)
              · have k82 : 81 ≤ c := by rcases Nat.lt_or_ge (c) (81) with q | q; exact absurd (show nI (81) ≤ nI (c) from c_82) (nI_ge q (by omega)); exact q
                refine g_iload_n (pc := 209) C 3 rfl rfl dX11_picture_209 ?_
                refine G.eqs (st' := [.int (nI (picN 9 (fm 9 m)))]) (congrArg (fun z9 => [Value.int z9]) (show ((nI (sumN v (9 * 9))) : Int32) = (nI (picN 9 (fm 9 m))) from by first | rfl | (rw [picN_eq hW (fun j hj => hq j (by omega))]))) ?_
                exact g_iret (pc := 210) C hr hlk (by first | decide | omega) (by first | decide | omega) (by first | decide | omega) dX11_picture_210 ⟨rfl, q1, (fun j9 => nI (g j9)), rfl⟩
              · have k82 : c < 81 := by rcases Nat.lt_or_ge (c) (81) with q | q; exact q; exact absurd (show nI (81) ≤ nI (c) from nI_le q (by omega)) c_82
                have hbc := hbnd c (show c < (9 * 9) by omega)
                refine g_aload_n (pc := 85) C 0 rfl rfl dX11_picture_85 ?_
                refine g_get (pc := 86) C (T := TX11) inX11 0 rfl rfl 6 (by decide) q_293 rfl rfl dX11_picture_86 ?_
                refine g_iload (pc := 89) C 4 rfl dX11_picture_89 ?_
                refine g_iald_n (pc := 91) C (j := c) 1 rfl (by omega) (by first | decide | omega) rfl dX11_picture_91 ?_
                refine G.eqs (st' := [.int (nI (g c))]) (congrArg (β := List Value) (fun z9 => [.int z9]) (show (((fun j9 => nI (g j9)) c) : Int32) = (nI (g c)) from rfl)) ?_
                refine g_iconst (pc := 92) (v := 4) C (by decide) dX11_picture_92 ?_
                refine g_icmp_ge (pc := 93) C 99 (by decide) dX11_picture_93 (fun c_93 => ?_) (fun c_93 => ?_)
                · have k93 : 4 ≤ g c := by rcases Nat.lt_or_ge (g c) (4) with q | q; exact absurd (show nI (4) ≤ nI (g c) from c_93) (nI_ge q (by omega)); exact q
                  have hsum2 := went_sum hmm (went_step (by decide) hW (show c < (9 * 9) by omega) (show 4 * 1 ≤ g c by omega)) pw9_s
                  rw [pw9_n, sumN_adv1 _ _ _ _ (show c < (9 * 9) by omega)] at hsum2
                  refine g_aload_n (pc := 99) C 0 rfl rfl dX11_picture_99 ?_
                  refine g_get (pc := 100) C (T := TX11) inX11 0 rfl rfl 6 (by decide) q_293 rfl rfl dX11_picture_100 ?_
                  refine g_iload (pc := 103) C 4 rfl dX11_picture_103 ?_
                  refine g_dup2 (pc := 105) C rfl rfl dX11_picture_105 ?_
                  refine g_iald_n (pc := 106) C (j := c) 1 rfl (by omega) (by first | decide | omega) rfl dX11_picture_106 ?_
                  refine G.eqs (st' := [.int (nI (g c)), .int (nI c), .ref q1]) (congrArg (β := List Value) (fun z9 => [.int z9, .int (nI c), .ref q1]) (show (((fun j9 => nI (g j9)) c) : Int32) = (nI (g c)) from rfl)) ?_
                  refine g_iconst (pc := 107) (v := 4) C (by decide) dX11_picture_107 ?_
                  refine g_isub (pc := 108) C dX11_picture_108 ?_
                  refine G.eqs (st' := [.int (nI (g c - 4)), .int (nI c), .ref q1]) (congrArg (β := List Value) (fun z9 => [.int z9, .int (nI c), .ref q1]) (show (((nI (g c)) - 4) : Int32) = (nI (g c - 4)) from by rw [show (4 : Int32) = nI 4 from rfl]; exact pk_sub (by omega))) ?_
                  refine g_iast_n (pc := 109) C (j := c) 1 [(mo, .inr (15, [.ref e0, .ref c1, .ref c2, .ref c3, .ref c4, .ref c5, .ref q1, .int (nI 0), .int (nI 0), .int 0, .int (nI 9), .int 0])), (q1, aI k 81 (upd (fun j9 => nI (g j9)) c (nI (g c - 4))))] rfl (by omega) (by first | decide | omega) rfl rfl dX11_picture_109 ?_
                  refine G.fn (fun j9 => nI ((sb g c 4) j9)) 1 [(mo, .inr (15, [.ref e0, .ref c1, .ref c2, .ref c3, .ref c4, .ref c5, .ref q1, .int (nI 0), .int (nI 0), .int 0, .int (nI 9), .int 0])), (q1, aI k 81 (fun j9 => nI ((sb g c 4) j9)))] rfl (fun j hj => by exact sb_put _ _ _ j) rfl ?_
                  refine g_iload (pc := 110) C 4 rfl dX11_picture_110 ?_
                  refine g_iload_n (pc := 112) C 1 rfl rfl dX11_picture_112 ?_
                  refine g_icmp_lt (pc := 113) C 129 (by decide) dX11_picture_113 (fun c_113 => ?_) (fun c_113 => ?_)
                  · have k113 : c < 9 := by rcases Nat.lt_or_ge (c) (9) with q | q; exact q; exact absurd c_113 (nI_nlt q (by omega))
                    refine g_iload (pc := 129) C 4 rfl dX11_picture_129 ?_
                    refine g_iload_n (pc := 131) C 1 rfl rfl dX11_picture_131 ?_
                    refine g_iadd (pc := 132) C dX11_picture_132 ?_
                    refine G.eqs (st' := [.int (nI (c + 9))]) (congrArg (β := List Value) (fun z9 => [.int z9]) (show (((nI c) + (nI 9)) : Int32) = (nI (c + 9)) from nI_add c 9)) ?_
                    refine g_aload_n (pc := 133) C 0 rfl rfl dX11_picture_133 ?_
                    refine g_get (pc := 134) C (T := TX11) inX11 0 rfl rfl 6 (by decide) q_293 rfl rfl dX11_picture_134 ?_
                    refine g_alen (pc := 137) C 1 rfl (t0 := 0) rfl (v := (nI 81)) rfl dX11_picture_137 ?_
                    refine g_icmp_ge (pc := 138) C 154 (by decide) dX11_picture_138 (fun c_138 => ?_) (fun c_138 => ?_)
                    · have k138 : 81 ≤ c + 9 := by rcases Nat.lt_or_ge (c + 9) (81) with q | q; exact absurd (show nI (81) ≤ nI (c + 9) from c_138) (nI_ge q (by omega)); exact q
                      refine g_iload (pc := 154) C 4 rfl dX11_picture_154 ?_
                      refine g_iload_n (pc := 156) C 1 rfl rfl dX11_picture_156 ?_
                      refine g_irem (pc := 157) C (by first | assumption | decide) dX11_picture_157 ?_
                      refine G.eqs (st' := [.int (nI (c % 9))]) (congrArg (β := List Value) (fun z9 => [.int z9]) (show (((nI c) - (nI c) / (nI 9) * (nI 9)) : Int32) = (nI (c % 9)) from pk_rem (by omega) (by decide) (by decide))) ?_
                      refine g_if_le (pc := 158) C 174 (by decide) dX11_picture_158 (fun c_158 => ?_) (fun c_158 => ?_)
                      · have k158 : c % 9 = 0 := by rcases Nat.eq_zero_or_pos (c % 9) with q | q; exact q; exact absurd c_158 (nI_nle q (by omega))
                        refine g_iload (pc := 174) C 4 rfl dX11_picture_174 ?_
                        refine g_iload_n (pc := 176) C 1 rfl rfl dX11_picture_176 ?_
                        refine g_irem (pc := 177) C (by first | assumption | decide) dX11_picture_177 ?_
                        refine G.eqs (st' := [.int (nI (c % 9))]) (congrArg (β := List Value) (fun z9 => [.int z9]) (show (((nI c) - (nI c) / (nI 9) * (nI 9)) : Int32) = (nI (c % 9)) from pk_rem (by omega) (by decide) (by decide))) ?_
                        refine g_iload_n (pc := 178) C 1 rfl rfl dX11_picture_178 ?_
                        refine g_iconst (pc := 179) (v := 1) C (by decide) dX11_picture_179 ?_
                        refine g_isub (pc := 180) C dX11_picture_180 ?_
                        refine G.eqs (st' := [.int (nI 8), .int (nI (c % 9))]) (congrArg (β := List Value) (fun z9 => [.int z9, .int (nI (c % 9))]) (show (((nI 9) - 1) : Int32) = (nI 8) from by decide)) ?_
                        refine g_icmp_ge (pc := 181) C 197 (by decide) dX11_picture_181 (fun c_181 => ?_) (fun c_181 => ?_)
                        · have k181 : 8 ≤ c % 9 := by rcases Nat.lt_or_ge (c % 9) (8) with q | q; exact absurd (show nI (8) ≤ nI (c % 9) from c_181) (nI_ge q (by omega)); exact q
                          refine g_iinc (pc := 197) (n := 1) (v := (nI ((sumN v (9 * 9)) + 1))) C 3 [(3, .int (nI ((sumN v (9 * 9)) + 1))), (0, .ref mo), (1, .int (nI 9)), (2, .int (nI m)), (4, .int (nI c))] rfl (nI_1 (sumN v (9 * 9))) dX11_picture_197 (by decide) rfl ?_
                          refine g_iconst (pc := 200) (v := (-1)) C (by decide) dX11_picture_200 ?_
                          refine g_istore (pc := 201) C [(4, .int (-1)), (3, .int (nI ((sumN v (9 * 9)) + 1))), (0, .ref mo), (1, .int (nI 9)), (2, .int (nI m))] dX11_picture_201 (by decide) rfl ?_
                          refine g_iinc (pc := 203) (n := 1) (v := ((-1) + 1)) C 0 [(4, .int ((-1) + 1)), (3, .int (nI ((sumN v (9 * 9)) + 1))), (0, .ref mo), (1, .int (nI 9)), (2, .int (nI m))] rfl rfl dX11_picture_203 (by decide) rfl ?_
                          refine g_goto (pc := 206) C 75 (by decide) dX11_picture_206 ?_
                          refine G.loc [2, 3, 4, 1, 0] (lv' := [(0, .ref mo), (1, .int (nI 9)), (2, .int (nI m)), (3, .int (nI ((sumN v (9 * 9)) + 1))), (4, .int ((-1) + 1))]) rfl ?_
                          refine G.fn (fun j9 => nI ((tpl 9 c 1 g) j9)) 1 [(mo, .inr (15, [.ref e0, .ref c1, .ref c2, .ref c3, .ref c4, .ref c5, .ref q1, .int (nI 0), .int (nI 0), .int 0, .int (nI 9), .int 0])), (q1, aI k 81 (fun j9 => nI ((tpl 9 c 1 g) j9)))] rfl (fun j hj => by first | rfl | (exact congrArg nI (by simp only [ad, sb, tpl, nbr]; repeat' (first | omega | split)))) rfl ?_
                          refine G.eql (lv' := [(0, .ref mo), (1, .int (nI 9)), (2, .int (nI m)), (3, .int (nI (sumN (adv v c 1) (9 * 9)))), (4, .int (nI 0))]) ((congrArg (β := List (Nat × Value)) (fun z9 => [(0, .ref mo), (1, .int (nI 9)), (2, .int (nI m)), (3, .int z9), (4, .int ((-1) + 1))]) (show ((nI ((sumN v (9 * 9)) + 1)) : Int32) = (nI (sumN (adv v c 1) (9 * 9))) from by first | rfl | decide | (rw [sumN_adv1 _ _ _ _ (show c < (9 * 9) by omega)]))).trans (congrArg (β := List (Nat × Value)) (fun z9 => [(0, .ref mo), (1, .int (nI 9)), (2, .int (nI m)), (3, .int (nI (sumN (adv v c 1) (9 * 9)))), (4, .int z9)]) (show (((-1) + 1) : Int32) = (nI 0) from by first | rfl | decide | (rw [sumN_adv1 _ _ _ _ (show c < (9 * 9) by omega)])))) ?_
                          exact ih_75 0 (tpl 9 c 1 g) (adv v c 1) (by first | exact hW | exact went_step (by decide) hW (show c < (9 * 9) by omega) (by omega)) (by omega) (by first | exact fun j hj => absurd hj (Nat.not_lt_zero j) | exact fun j hj => (by rcases Nat.lt_or_ge j c with q | q; exact hq j q; rw [show j = c by omega]; exact k93)) (by first | omega | (rw [sumN_adv1 _ _ _ _ (show c < (9 * 9) by omega)]; omega))
                        · have k181 : c % 9 < 8 := by rcases Nat.lt_or_ge (c % 9) (8) with q | q; exact q; exact absurd (show nI (8) ≤ nI (c % 9) from nI_le q (by omega)) c_181
                          refine g_aload_n (pc := 184) C 0 rfl rfl dX11_picture_184 ?_
                          refine g_get (pc := 185) C (T := TX11) inX11 0 rfl rfl 6 (by decide) q_293 rfl rfl dX11_picture_185 ?_
                          refine g_iload (pc := 188) C 4 rfl dX11_picture_188 ?_
                          refine g_iconst (pc := 190) (v := 1) C (by decide) dX11_picture_190 ?_
                          refine g_iadd (pc := 191) C dX11_picture_191 ?_
                          refine G.eqs (st' := [.int (nI (c + 1)), .ref q1]) (congrArg (β := List Value) (fun z9 => [.int z9, .ref q1]) (show (((nI c) + 1) : Int32) = (nI (c + 1)) from nI_1 c)) ?_
                          refine g_dup2 (pc := 192) C rfl rfl dX11_picture_192 ?_
                          refine g_iald_n (pc := 193) C (j := (c + 1)) 1 rfl (by omega) (by first | decide | omega) rfl dX11_picture_193 ?_
                          refine g_iconst (pc := 194) (v := 1) C (by decide) dX11_picture_194 ?_
                          refine g_iadd (pc := 195) C dX11_picture_195 ?_
                          refine g_iast_n (pc := 196) C (j := (c + 1)) 1 [(mo, .inr (15, [.ref e0, .ref c1, .ref c2, .ref c3, .ref c4, .ref c5, .ref q1, .int (nI 0), .int (nI 0), .int 0, .int (nI 9), .int 0])), (q1, aI k 81 (upd (fun j9 => nI ((sb g c 4) j9)) (c + 1) (((fun j9 => nI ((sb g c 4) j9)) (c + 1)) + 1)))] rfl (by omega) (by first | decide | omega) rfl rfl dX11_picture_196 ?_
                          refine G.fn (fun j9 => nI ((ad (sb g c 4) (c + 1) 1) j9)) 1 [(mo, .inr (15, [.ref e0, .ref c1, .ref c2, .ref c3, .ref c4, .ref c5, .ref q1, .int (nI 0), .int (nI 0), .int 0, .int (nI 9), .int 0])), (q1, aI k 81 (fun j9 => nI ((ad (sb g c 4) (c + 1) 1) j9)))] rfl (fun j hj => by exact ad_step _ _ _ j) rfl ?_
                          refine g_iinc (pc := 197) (n := 1) (v := (nI ((sumN v (9 * 9)) + 1))) C 3 [(3, .int (nI ((sumN v (9 * 9)) + 1))), (0, .ref mo), (1, .int (nI 9)), (2, .int (nI m)), (4, .int (nI c))] rfl (nI_1 (sumN v (9 * 9))) dX11_picture_197 (by decide) rfl ?_
                          refine g_iconst (pc := 200) (v := (-1)) C (by decide) dX11_picture_200 ?_
                          refine g_istore (pc := 201) C [(4, .int (-1)), (3, .int (nI ((sumN v (9 * 9)) + 1))), (0, .ref mo), (1, .int (nI 9)), (2, .int (nI m))] dX11_picture_201 (by decide) rfl ?_
                          refine g_iinc (pc := 203) (n := 1) (v := ((-1) + 1)) C 0 [(4, .int ((-1) + 1)), (3, .int (nI ((sumN v (9 * 9)) + 1))), (0, .ref mo), (1, .int (nI 9)), (2, .int (nI m))] rfl rfl dX11_picture_203 (by decide) rfl ?_
                          refine g_goto (pc := 206) C 75 (by decide) dX11_picture_206 ?_
                          refine G.loc [2, 3, 4, 1, 0] (lv' := [(0, .ref mo), (1, .int (nI 9)), (2, .int (nI m)), (3, .int (nI ((sumN v (9 * 9)) + 1))), (4, .int ((-1) + 1))]) rfl ?_
                          refine G.fn (fun j9 => nI ((tpl 9 c 1 g) j9)) 1 [(mo, .inr (15, [.ref e0, .ref c1, .ref c2, .ref c3, .ref c4, .ref c5, .ref q1, .int (nI 0), .int (nI 0), .int 0, .int (nI 9), .int 0])), (q1, aI k 81 (fun j9 => nI ((tpl 9 c 1 g) j9)))] rfl (fun j hj => by first | rfl | (exact congrArg nI (by simp only [ad, sb, tpl, nbr]; repeat' (first | omega | split)))) rfl ?_
                          refine G.eql (lv' := [(0, .ref mo), (1, .int (nI 9)), (2, .int (nI m)), (3, .int (nI (sumN (adv v c 1) (9 * 9)))), (4, .int (nI 0))]) ((congrArg (β := List (Nat × Value)) (fun z9 => [(0, .ref mo), (1, .int (nI 9)), (2, .int (nI m)), (3, .int z9), (4, .int ((-1) + 1))]) (show ((nI ((sumN v (9 * 9)) + 1)) : Int32) = (nI (sumN (adv v c 1) (9 * 9))) from by first | rfl | decide | (rw [sumN_adv1 _ _ _ _ (show c < (9 * 9) by omega)]))).trans (congrArg (β := List (Nat × Value)) (fun z9 => [(0, .ref mo), (1, .int (nI 9)), (2, .int (nI m)), (3, .int (nI (sumN (adv v c 1) (9 * 9)))), (4, .int z9)]) (show (((-1) + 1) : Int32) = (nI 0) from by first | rfl | decide | (rw [sumN_adv1 _ _ _ _ (show c < (9 * 9) by omega)])))) ?_
                          exact ih_75 0 (tpl 9 c 1 g) (adv v c 1) (by first | exact hW | exact went_step (by decide) hW (show c < (9 * 9) by omega) (by omega)) (by omega) (by first | exact fun j hj => absurd hj (Nat.not_lt_zero j) | exact fun j hj => (by rcases Nat.lt_or_ge j c with q | q; exact hq j q; rw [show j = c by omega]; exact k93)) (by first | omega | (rw [sumN_adv1 _ _ _ _ (show c < (9 * 9) by omega)]; omega))
                      · have k158 : 0 < c % 9 := by rcases Nat.eq_zero_or_pos (c % 9) with q | q; rw [q] at c_158; exact absurd (show nI 0 ≤ 0 by decide) c_158; exact q
                        refine g_aload_n (pc := 161) C 0 rfl rfl dX11_picture_161 ?_
                        refine g_get (pc := 162) C (T := TX11) inX11 0 rfl rfl 6 (by decide) q_293 rfl rfl dX11_picture_162 ?_
                        refine g_iload (pc := 165) C 4 rfl dX11_picture_165 ?_
                        refine g_iconst (pc := 167) (v := 1) C (by decide) dX11_picture_167 ?_
                        refine g_isub (pc := 168) C dX11_picture_168 ?_
                        refine G.eqs (st' := [.int (nI (c - 1)), .ref q1]) (congrArg (β := List Value) (fun z9 => [.int z9, .ref q1]) (show (((nI c) - 1) : Int32) = (nI (c - 1)) from by rw [show (1 : Int32) = nI 1 from rfl]; exact pk_sub (by omega))) ?_
                        refine g_dup2 (pc := 169) C rfl rfl dX11_picture_169 ?_
                        refine g_iald_n (pc := 170) C (j := (c - 1)) 1 rfl (by omega) (by first | decide | omega) rfl dX11_picture_170 ?_
                        refine g_iconst (pc := 171) (v := 1) C (by decide) dX11_picture_171 ?_
                        refine g_iadd (pc := 172) C dX11_picture_172 ?_
                        refine g_iast_n (pc := 173) C (j := (c - 1)) 1 [(mo, .inr (15, [.ref e0, .ref c1, .ref c2, .ref c3, .ref c4, .ref c5, .ref q1, .int (nI 0), .int (nI 0), .int 0, .int (nI 9), .int 0])), (q1, aI k 81 (upd (fun j9 => nI ((sb g c 4) j9)) (c - 1) (((fun j9 => nI ((sb g c 4) j9)) (c - 1)) + 1)))] rfl (by omega) (by first | decide | omega) rfl rfl dX11_picture_173 ?_
                        refine G.fn (fun j9 => nI ((ad (sb g c 4) (c - 1) 1) j9)) 1 [(mo, .inr (15, [.ref e0, .ref c1, .ref c2, .ref c3, .ref c4, .ref c5, .ref q1, .int (nI 0), .int (nI 0), .int 0, .int (nI 9), .int 0])), (q1, aI k 81 (fun j9 => nI ((ad (sb g c 4) (c - 1) 1) j9)))] rfl (fun j hj => by exact ad_step _ _ _ j) rfl ?_
                        refine g_iload (pc := 174) C 4 rfl dX11_picture_174 ?_
                        refine g_iload_n (pc := 176) C 1 rfl rfl dX11_picture_176 ?_
                        refine g_irem (pc := 177) C (by first | assumption | decide) dX11_picture_177 ?_
                        refine G.eqs (st' := [.int (nI (c % 9))]) (congrArg (β := List Value) (fun z9 => [.int z9]) (show (((nI c) - (nI c) / (nI 9) * (nI 9)) : Int32) = (nI (c % 9)) from pk_rem (by omega) (by decide) (by decide))) ?_
                        refine g_iload_n (pc := 178) C 1 rfl rfl dX11_picture_178 ?_
                        refine g_iconst (pc := 179) (v := 1) C (by decide) dX11_picture_179 ?_
                        refine g_isub (pc := 180) C dX11_picture_180 ?_
                        refine G.eqs (st' := [.int (nI 8), .int (nI (c % 9))]) (congrArg (β := List Value) (fun z9 => [.int z9, .int (nI (c % 9))]) (show (((nI 9) - 1) : Int32) = (nI 8) from by decide)) ?_
                        refine g_icmp_ge (pc := 181) C 197 (by decide) dX11_picture_181 (fun c_181 => ?_) (fun c_181 => ?_)
                        · have k181 : 8 ≤ c % 9 := by rcases Nat.lt_or_ge (c % 9) (8) with q | q; exact absurd (show nI (8) ≤ nI (c % 9) from c_181) (nI_ge q (by omega)); exact q
                          refine g_iinc (pc := 197) (n := 1) (v := (nI ((sumN v (9 * 9)) + 1))) C 3 [(3, .int (nI ((sumN v (9 * 9)) + 1))), (0, .ref mo), (1, .int (nI 9)), (2, .int (nI m)), (4, .int (nI c))] rfl (nI_1 (sumN v (9 * 9))) dX11_picture_197 (by decide) rfl ?_
                          refine g_iconst (pc := 200) (v := (-1)) C (by decide) dX11_picture_200 ?_
                          refine g_istore (pc := 201) C [(4, .int (-1)), (3, .int (nI ((sumN v (9 * 9)) + 1))), (0, .ref mo), (1, .int (nI 9)), (2, .int (nI m))] dX11_picture_201 (by decide) rfl ?_
                          refine g_iinc (pc := 203) (n := 1) (v := ((-1) + 1)) C 0 [(4, .int ((-1) + 1)), (3, .int (nI ((sumN v (9 * 9)) + 1))), (0, .ref mo), (1, .int (nI 9)), (2, .int (nI m))] rfl rfl dX11_picture_203 (by decide) rfl ?_
                          refine g_goto (pc := 206) C 75 (by decide) dX11_picture_206 ?_
                          refine G.loc [2, 3, 4, 1, 0] (lv' := [(0, .ref mo), (1, .int (nI 9)), (2, .int (nI m)), (3, .int (nI ((sumN v (9 * 9)) + 1))), (4, .int ((-1) + 1))]) rfl ?_
                          refine G.fn (fun j9 => nI ((tpl 9 c 1 g) j9)) 1 [(mo, .inr (15, [.ref e0, .ref c1, .ref c2, .ref c3, .ref c4, .ref c5, .ref q1, .int (nI 0), .int (nI 0), .int 0, .int (nI 9), .int 0])), (q1, aI k 81 (fun j9 => nI ((tpl 9 c 1 g) j9)))] rfl (fun j hj => by first | rfl | (exact congrArg nI (by simp only [ad, sb, tpl, nbr]; repeat' (first | omega | split)))) rfl ?_
                          refine G.eql (lv' := [(0, .ref mo), (1, .int (nI 9)), (2, .int (nI m)), (3, .int (nI (sumN (adv v c 1) (9 * 9)))), (4, .int (nI 0))]) ((congrArg (β := List (Nat × Value)) (fun z9 => [(0, .ref mo), (1, .int (nI 9)), (2, .int (nI m)), (3, .int z9), (4, .int ((-1) + 1))]) (show ((nI ((sumN v (9 * 9)) + 1)) : Int32) = (nI (sumN (adv v c 1) (9 * 9))) from by first | rfl | decide | (rw [sumN_adv1 _ _ _ _ (show c < (9 * 9) by omega)]))).trans (congrArg (β := List (Nat × Value)) (fun z9 => [(0, .ref mo), (1, .int (nI 9)), (2, .int (nI m)), (3, .int (nI (sumN (adv v c 1) (9 * 9)))), (4, .int z9)]) (show (((-1) + 1) : Int32) = (nI 0) from by first | rfl | decide | (rw [sumN_adv1 _ _ _ _ (show c < (9 * 9) by omega)])))) ?_
                          exact ih_75 0 (tpl 9 c 1 g) (adv v c 1) (by first | exact hW | exact went_step (by decide) hW (show c < (9 * 9) by omega) (by omega)) (by omega) (by first | exact fun j hj => absurd hj (Nat.not_lt_zero j) | exact fun j hj => (by rcases Nat.lt_or_ge j c with q | q; exact hq j q; rw [show j = c by omega]; exact k93)) (by first | omega | (rw [sumN_adv1 _ _ _ _ (show c < (9 * 9) by omega)]; omega))
                        · have k181 : c % 9 < 8 := by rcases Nat.lt_or_ge (c % 9) (8) with q | q; exact q; exact absurd (show nI (8) ≤ nI (c % 9) from nI_le q (by omega)) c_181
                          refine g_aload_n (pc := 184) C 0 rfl rfl dX11_picture_184 ?_
                          refine g_get (pc := 185) C (T := TX11) inX11 0 rfl rfl 6 (by decide) q_293 rfl rfl dX11_picture_185 ?_
                          refine g_iload (pc := 188) C 4 rfl dX11_picture_188 ?_
                          refine g_iconst (pc := 190) (v := 1) C (by decide) dX11_picture_190 ?_
                          refine g_iadd (pc := 191) C dX11_picture_191 ?_
                          refine G.eqs (st' := [.int (nI (c + 1)), .ref q1]) (congrArg (β := List Value) (fun z9 => [.int z9, .ref q1]) (show (((nI c) + 1) : Int32) = (nI (c + 1)) from nI_1 c)) ?_
                          refine g_dup2 (pc := 192) C rfl rfl dX11_picture_192 ?_
                          refine g_iald_n (pc := 193) C (j := (c + 1)) 1 rfl (by omega) (by first | decide | omega) rfl dX11_picture_193 ?_
                          refine g_iconst (pc := 194) (v := 1) C (by decide) dX11_picture_194 ?_
                          refine g_iadd (pc := 195) C dX11_picture_195 ?_
                          refine g_iast_n (pc := 196) C (j := (c + 1)) 1 [(mo, .inr (15, [.ref e0, .ref c1, .ref c2, .ref c3, .ref c4, .ref c5, .ref q1, .int (nI 0), .int (nI 0), .int 0, .int (nI 9), .int 0])), (q1, aI k 81 (upd (fun j9 => nI ((ad (sb g c 4) (c - 1) 1) j9)) (c + 1) (((fun j9 => nI ((ad (sb g c 4) (c - 1) 1) j9)) (c + 1)) + 1)))] rfl (by omega) (by first | decide | omega) rfl rfl dX11_picture_196 ?_
                          refine G.fn (fun j9 => nI ((ad (ad (sb g c 4) (c - 1) 1) (c + 1) 1) j9)) 1 [(mo, .inr (15, [.ref e0, .ref c1, .ref c2, .ref c3, .ref c4, .ref c5, .ref q1, .int (nI 0), .int (nI 0), .int 0, .int (nI 9), .int 0])), (q1, aI k 81 (fun j9 => nI ((ad (ad (sb g c 4) (c - 1) 1) (c + 1) 1) j9)))] rfl (fun j hj => by exact ad_step _ _ _ j) rfl ?_
                          refine g_iinc (pc := 197) (n := 1) (v := (nI ((sumN v (9 * 9)) + 1))) C 3 [(3, .int (nI ((sumN v (9 * 9)) + 1))), (0, .ref mo), (1, .int (nI 9)), (2, .int (nI m)), (4, .int (nI c))] rfl (nI_1 (sumN v (9 * 9))) dX11_picture_197 (by decide) rfl ?_
                          refine g_iconst (pc := 200) (v := (-1)) C (by decide) dX11_picture_200 ?_
                          refine g_istore (pc := 201) C [(4, .int (-1)), (3, .int (nI ((sumN v (9 * 9)) + 1))), (0, .ref mo), (1, .int (nI 9)), (2, .int (nI m))] dX11_picture_201 (by decide) rfl ?_
                          refine g_iinc (pc := 203) (n := 1) (v := ((-1) + 1)) C 0 [(4, .int ((-1) + 1)), (3, .int (nI ((sumN v (9 * 9)) + 1))), (0, .ref mo), (1, .int (nI 9)), (2, .int (nI m))] rfl rfl dX11_picture_203 (by decide) rfl ?_
                          refine g_goto (pc := 206) C 75 (by decide) dX11_picture_206 ?_
                          refine G.loc [2, 3, 4, 1, 0] (lv' := [(0, .ref mo), (1, .int (nI 9)), (2, .int (nI m)), (3, .int (nI ((sumN v (9 * 9)) + 1))), (4, .int ((-1) + 1))]) rfl ?_
                          refine G.fn (fun j9 => nI ((tpl 9 c 1 g) j9)) 1 [(mo, .inr (15, [.ref e0, .ref c1, .ref c2, .ref c3, .ref c4, .ref c5, .ref q1, .int (nI 0), .int (nI 0), .int 0, .int (nI 9), .int 0])), (q1, aI k 81 (fun j9 => nI ((tpl 9 c 1 g) j9)))] rfl (fun j hj => by first | rfl | (exact congrArg nI (by simp only [ad, sb, tpl, nbr]; repeat' (first | omega | split)))) rfl ?_
                          refine G.eql (lv' := [(0, .ref mo), (1, .int (nI 9)), (2, .int (nI m)), (3, .int (nI (sumN (adv v c 1) (9 * 9)))), (4, .int (nI 0))]) ((congrArg (β := List (Nat × Value)) (fun z9 => [(0, .ref mo), (1, .int (nI 9)), (2, .int (nI m)), (3, .int z9), (4, .int ((-1) + 1))]) (show ((nI ((sumN v (9 * 9)) + 1)) : Int32) = (nI (sumN (adv v c 1) (9 * 9))) from by first | rfl | decide | (rw [sumN_adv1 _ _ _ _ (show c < (9 * 9) by omega)]))).trans (congrArg (β := List (Nat × Value)) (fun z9 => [(0, .ref mo), (1, .int (nI 9)), (2, .int (nI m)), (3, .int (nI (sumN (adv v c 1) (9 * 9)))), (4, .int z9)]) (show (((-1) + 1) : Int32) = (nI 0) from by first | rfl | decide | (rw [sumN_adv1 _ _ _ _ (show c < (9 * 9) by omega)])))) ?_
                          exact ih_75 0 (tpl 9 c 1 g) (adv v c 1) (by first | exact hW | exact went_step (by decide) hW (show c < (9 * 9) by omega) (by omega)) (by omega) (by first | exact fun j hj => absurd hj (Nat.not_lt_zero j) | exact fun j hj => (by rcases Nat.lt_or_ge j c with q | q; exact hq j q; rw [show j = c by omega]; exact k93)) (by first | omega | (rw [sumN_adv1 _ _ _ _ (show c < (9 * 9) by omega)]; omega))
                    · have k138 : c + 9 < 81 := by rcases Nat.lt_or_ge (c + 9) (81) with q | q; exact q; exact absurd (show nI (81) ≤ nI (c + 9) from nI_le q (by omega)) c_138
                      refine g_aload_n (pc := 141) C 0 rfl rfl dX11_picture_141 ?_
                      refine g_get (pc := 142) C (T := TX11) inX11 0 rfl rfl 6 (by decide) q_293 rfl rfl dX11_picture_142 ?_
                      refine g_iload (pc := 145) C 4 rfl dX11_picture_145 ?_
                      refine g_iload_n (pc := 147) C 1 rfl rfl dX11_picture_147 ?_
                      refine g_iadd (pc := 148) C dX11_picture_148 ?_
                      refine G.eqs (st' := [.int (nI (c + 9)), .ref q1]) (congrArg (β := List Value) (fun z9 => [.int z9, .ref q1]) (show (((nI c) + (nI 9)) : Int32) = (nI (c + 9)) from nI_add c 9)) ?_
                      refine g_dup2 (pc := 149) C rfl rfl dX11_picture_149 ?_
                      refine g_iald_n (pc := 150) C (j := (c + 9)) 1 rfl (by omega) (by first | decide | omega) rfl dX11_picture_150 ?_
                      refine g_iconst (pc := 151) (v := 1) C (by decide) dX11_picture_151 ?_
                      refine g_iadd (pc := 152) C dX11_picture_152 ?_
                      refine g_iast_n (pc := 153) C (j := (c + 9)) 1 [(mo, .inr (15, [.ref e0, .ref c1, .ref c2, .ref c3, .ref c4, .ref c5, .ref q1, .int (nI 0), .int (nI 0), .int 0, .int (nI 9), .int 0])), (q1, aI k 81 (upd (fun j9 => nI ((sb g c 4) j9)) (c + 9) (((fun j9 => nI ((sb g c 4) j9)) (c + 9)) + 1)))] rfl (by omega) (by first | decide | omega) rfl rfl dX11_picture_153 ?_
                      refine G.fn (fun j9 => nI ((ad (sb g c 4) (c + 9) 1) j9)) 1 [(mo, .inr (15, [.ref e0, .ref c1, .ref c2, .ref c3, .ref c4, .ref c5, .ref q1, .int (nI 0), .int (nI 0), .int 0, .int (nI 9), .int 0])), (q1, aI k 81 (fun j9 => nI ((ad (sb g c 4) (c + 9) 1) j9)))] rfl (fun j hj => by exact ad_step _ _ _ j) rfl ?_
                      refine g_iload (pc := 154) C 4 rfl dX11_picture_154 ?_
                      refine g_iload_n (pc := 156) C 1 rfl rfl dX11_picture_156 ?_
                      refine g_irem (pc := 157) C (by first | assumption | decide) dX11_picture_157 ?_
                      refine G.eqs (st' := [.int (nI (c % 9))]) (congrArg (β := List Value) (fun z9 => [.int z9]) (show (((nI c) - (nI c) / (nI 9) * (nI 9)) : Int32) = (nI (c % 9)) from pk_rem (by omega) (by decide) (by decide))) ?_
                      refine g_if_le (pc := 158) C 174 (by decide) dX11_picture_158 (fun c_158 => ?_) (fun c_158 => ?_)
                      · have k158 : c % 9 = 0 := by rcases Nat.eq_zero_or_pos (c % 9) with q | q; exact q; exact absurd c_158 (nI_nle q (by omega))
                        refine g_iload (pc := 174) C 4 rfl dX11_picture_174 ?_
                        refine g_iload_n (pc := 176) C 1 rfl rfl dX11_picture_176 ?_
                        refine g_irem (pc := 177) C (by first | assumption | decide) dX11_picture_177 ?_
                        refine G.eqs (st' := [.int (nI (c % 9))]) (congrArg (β := List Value) (fun z9 => [.int z9]) (show (((nI c) - (nI c) / (nI 9) * (nI 9)) : Int32) = (nI (c % 9)) from pk_rem (by omega) (by decide) (by decide))) ?_
                        refine g_iload_n (pc := 178) C 1 rfl rfl dX11_picture_178 ?_
                        refine g_iconst (pc := 179) (v := 1) C (by decide) dX11_picture_179 ?_
                        refine g_isub (pc := 180) C dX11_picture_180 ?_
                        refine G.eqs (st' := [.int (nI 8), .int (nI (c % 9))]) (congrArg (β := List Value) (fun z9 => [.int z9, .int (nI (c % 9))]) (show (((nI 9) - 1) : Int32) = (nI 8) from by decide)) ?_
                        refine g_icmp_ge (pc := 181) C 197 (by decide) dX11_picture_181 (fun c_181 => ?_) (fun c_181 => ?_)
                        · have k181 : 8 ≤ c % 9 := by rcases Nat.lt_or_ge (c % 9) (8) with q | q; exact absurd (show nI (8) ≤ nI (c % 9) from c_181) (nI_ge q (by omega)); exact q
                          refine g_iinc (pc := 197) (n := 1) (v := (nI ((sumN v (9 * 9)) + 1))) C 3 [(3, .int (nI ((sumN v (9 * 9)) + 1))), (0, .ref mo), (1, .int (nI 9)), (2, .int (nI m)), (4, .int (nI c))] rfl (nI_1 (sumN v (9 * 9))) dX11_picture_197 (by decide) rfl ?_
                          refine g_iconst (pc := 200) (v := (-1)) C (by decide) dX11_picture_200 ?_
                          refine g_istore (pc := 201) C [(4, .int (-1)), (3, .int (nI ((sumN v (9 * 9)) + 1))), (0, .ref mo), (1, .int (nI 9)), (2, .int (nI m))] dX11_picture_201 (by decide) rfl ?_
                          refine g_iinc (pc := 203) (n := 1) (v := ((-1) + 1)) C 0 [(4, .int ((-1) + 1)), (3, .int (nI ((sumN v (9 * 9)) + 1))), (0, .ref mo), (1, .int (nI 9)), (2, .int (nI m))] rfl rfl dX11_picture_203 (by decide) rfl ?_
                          refine g_goto (pc := 206) C 75 (by decide) dX11_picture_206 ?_
                          refine G.loc [2, 3, 4, 1, 0] (lv' := [(0, .ref mo), (1, .int (nI 9)), (2, .int (nI m)), (3, .int (nI ((sumN v (9 * 9)) + 1))), (4, .int ((-1) + 1))]) rfl ?_
                          refine G.fn (fun j9 => nI ((tpl 9 c 1 g) j9)) 1 [(mo, .inr (15, [.ref e0, .ref c1, .ref c2, .ref c3, .ref c4, .ref c5, .ref q1, .int (nI 0), .int (nI 0), .int 0, .int (nI 9), .int 0])), (q1, aI k 81 (fun j9 => nI ((tpl 9 c 1 g) j9)))] rfl (fun j hj => by first | rfl | (exact congrArg nI (by simp only [ad, sb, tpl, nbr]; repeat' (first | omega | split)))) rfl ?_
                          refine G.eql (lv' := [(0, .ref mo), (1, .int (nI 9)), (2, .int (nI m)), (3, .int (nI (sumN (adv v c 1) (9 * 9)))), (4, .int (nI 0))]) ((congrArg (β := List (Nat × Value)) (fun z9 => [(0, .ref mo), (1, .int (nI 9)), (2, .int (nI m)), (3, .int z9), (4, .int ((-1) + 1))]) (show ((nI ((sumN v (9 * 9)) + 1)) : Int32) = (nI (sumN (adv v c 1) (9 * 9))) from by first | rfl | decide | (rw [sumN_adv1 _ _ _ _ (show c < (9 * 9) by omega)]))).trans (congrArg (β := List (Nat × Value)) (fun z9 => [(0, .ref mo), (1, .int (nI 9)), (2, .int (nI m)), (3, .int (nI (sumN (adv v c 1) (9 * 9)))), (4, .int z9)]) (show (((-1) + 1) : Int32) = (nI 0) from by first | rfl | decide | (rw [sumN_adv1 _ _ _ _ (show c < (9 * 9) by omega)])))) ?_
                          exact ih_75 0 (tpl 9 c 1 g) (adv v c 1) (by first | exact hW | exact went_step (by decide) hW (show c < (9 * 9) by omega) (by omega)) (by omega) (by first | exact fun j hj => absurd hj (Nat.not_lt_zero j) | exact fun j hj => (by rcases Nat.lt_or_ge j c with q | q; exact hq j q; rw [show j = c by omega]; exact k93)) (by first | omega | (rw [sumN_adv1 _ _ _ _ (show c < (9 * 9) by omega)]; omega))
                        · have k181 : c % 9 < 8 := by rcases Nat.lt_or_ge (c % 9) (8) with q | q; exact q; exact absurd (show nI (8) ≤ nI (c % 9) from nI_le q (by omega)) c_181
                          refine g_aload_n (pc := 184) C 0 rfl rfl dX11_picture_184 ?_
                          refine g_get (pc := 185) C (T := TX11) inX11 0 rfl rfl 6 (by decide) q_293 rfl rfl dX11_picture_185 ?_
                          refine g_iload (pc := 188) C 4 rfl dX11_picture_188 ?_
                          refine g_iconst (pc := 190) (v := 1) C (by decide) dX11_picture_190 ?_
                          refine g_iadd (pc := 191) C dX11_picture_191 ?_
                          refine G.eqs (st' := [.int (nI (c + 1)), .ref q1]) (congrArg (β := List Value) (fun z9 => [.int z9, .ref q1]) (show (((nI c) + 1) : Int32) = (nI (c + 1)) from nI_1 c)) ?_
                          refine g_dup2 (pc := 192) C rfl rfl dX11_picture_192 ?_
                          refine g_iald_n (pc := 193) C (j := (c + 1)) 1 rfl (by omega) (by first | decide | omega) rfl dX11_picture_193 ?_
                          refine g_iconst (pc := 194) (v := 1) C (by decide) dX11_picture_194 ?_
                          refine g_iadd (pc := 195) C dX11_picture_195 ?_
                          refine g_iast_n (pc := 196) C (j := (c + 1)) 1 [(mo, .inr (15, [.ref e0, .ref c1, .ref c2, .ref c3, .ref c4, .ref c5, .ref q1, .int (nI 0), .int (nI 0), .int 0, .int (nI 9), .int 0])), (q1, aI k 81 (upd (fun j9 => nI ((ad (sb g c 4) (c + 9) 1) j9)) (c + 1) (((fun j9 => nI ((ad (sb g c 4) (c + 9) 1) j9)) (c + 1)) + 1)))] rfl (by omega) (by first | decide | omega) rfl rfl dX11_picture_196 ?_
                          refine G.fn (fun j9 => nI ((ad (ad (sb g c 4) (c + 9) 1) (c + 1) 1) j9)) 1 [(mo, .inr (15, [.ref e0, .ref c1, .ref c2, .ref c3, .ref c4, .ref c5, .ref q1, .int (nI 0), .int (nI 0), .int 0, .int (nI 9), .int 0])), (q1, aI k 81 (fun j9 => nI ((ad (ad (sb g c 4) (c + 9) 1) (c + 1) 1) j9)))] rfl (fun j hj => by exact ad_step _ _ _ j) rfl ?_
                          refine g_iinc (pc := 197) (n := 1) (v := (nI ((sumN v (9 * 9)) + 1))) C 3 [(3, .int (nI ((sumN v (9 * 9)) + 1))), (0, .ref mo), (1, .int (nI 9)), (2, .int (nI m)), (4, .int (nI c))] rfl (nI_1 (sumN v (9 * 9))) dX11_picture_197 (by decide) rfl ?_
                          refine g_iconst (pc := 200) (v := (-1)) C (by decide) dX11_picture_200 ?_
                          refine g_istore (pc := 201) C [(4, .int (-1)), (3, .int (nI ((sumN v (9 * 9)) + 1))), (0, .ref mo), (1, .int (nI 9)), (2, .int (nI m))] dX11_picture_201 (by decide) rfl ?_
                          refine g_iinc (pc := 203) (n := 1) (v := ((-1) + 1)) C 0 [(4, .int ((-1) + 1)), (3, .int (nI ((sumN v (9 * 9)) + 1))), (0, .ref mo), (1, .int (nI 9)), (2, .int (nI m))] rfl rfl dX11_picture_203 (by decide) rfl ?_
                          refine g_goto (pc := 206) C 75 (by decide) dX11_picture_206 ?_
                          refine G.loc [2, 3, 4, 1, 0] (lv' := [(0, .ref mo), (1, .int (nI 9)), (2, .int (nI m)), (3, .int (nI ((sumN v (9 * 9)) + 1))), (4, .int ((-1) + 1))]) rfl ?_
                          refine G.fn (fun j9 => nI ((tpl 9 c 1 g) j9)) 1 [(mo, .inr (15, [.ref e0, .ref c1, .ref c2, .ref c3, .ref c4, .ref c5, .ref q1, .int (nI 0), .int (nI 0), .int 0, .int (nI 9), .int 0])), (q1, aI k 81 (fun j9 => nI ((tpl 9 c 1 g) j9)))] rfl (fun j hj => by first | rfl | (exact congrArg nI (by simp only [ad, sb, tpl, nbr]; repeat' (first | omega | split)))) rfl ?_
                          refine G.eql (lv' := [(0, .ref mo), (1, .int (nI 9)), (2, .int (nI m)), (3, .int (nI (sumN (adv v c 1) (9 * 9)))), (4, .int (nI 0))]) ((congrArg (β := List (Nat × Value)) (fun z9 => [(0, .ref mo), (1, .int (nI 9)), (2, .int (nI m)), (3, .int z9), (4, .int ((-1) + 1))]) (show ((nI ((sumN v (9 * 9)) + 1)) : Int32) = (nI (sumN (adv v c 1) (9 * 9))) from by first | rfl | decide | (rw [sumN_adv1 _ _ _ _ (show c < (9 * 9) by omega)]))).trans (congrArg (β := List (Nat × Value)) (fun z9 => [(0, .ref mo), (1, .int (nI 9)), (2, .int (nI m)), (3, .int (nI (sumN (adv v c 1) (9 * 9)))), (4, .int z9)]) (show (((-1) + 1) : Int32) = (nI 0) from by first | rfl | decide | (rw [sumN_adv1 _ _ _ _ (show c < (9 * 9) by omega)])))) ?_
                          exact ih_75 0 (tpl 9 c 1 g) (adv v c 1) (by first | exact hW | exact went_step (by decide) hW (show c < (9 * 9) by omega) (by omega)) (by omega) (by first | exact fun j hj => absurd hj (Nat.not_lt_zero j) | exact fun j hj => (by rcases Nat.lt_or_ge j c with q | q; exact hq j q; rw [show j = c by omega]; exact k93)) (by first | omega | (rw [sumN_adv1 _ _ _ _ (show c < (9 * 9) by omega)]; omega))
                      · have k158 : 0 < c % 9 := by rcases Nat.eq_zero_or_pos (c % 9) with q | q; rw [q] at c_158; exact absurd (show nI 0 ≤ 0 by decide) c_158; exact q
                        refine g_aload_n (pc := 161) C 0 rfl rfl dX11_picture_161 ?_
                        refine g_get (pc := 162) C (T := TX11) inX11 0 rfl rfl 6 (by decide) q_293 rfl rfl dX11_picture_162 ?_
                        refine g_iload (pc := 165) C 4 rfl dX11_picture_165 ?_
                        refine g_iconst (pc := 167) (v := 1) C (by decide) dX11_picture_167 ?_
                        refine g_isub (pc := 168) C dX11_picture_168 ?_
                        refine G.eqs (st' := [.int (nI (c - 1)), .ref q1]) (congrArg (β := List Value) (fun z9 => [.int z9, .ref q1]) (show (((nI c) - 1) : Int32) = (nI (c - 1)) from by rw [show (1 : Int32) = nI 1 from rfl]; exact pk_sub (by omega))) ?_
                        refine g_dup2 (pc := 169) C rfl rfl dX11_picture_169 ?_
                        refine g_iald_n (pc := 170) C (j := (c - 1)) 1 rfl (by omega) (by first | decide | omega) rfl dX11_picture_170 ?_
                        refine g_iconst (pc := 171) (v := 1) C (by decide) dX11_picture_171 ?_
                        refine g_iadd (pc := 172) C dX11_picture_172 ?_
                        refine g_iast_n (pc := 173) C (j := (c - 1)) 1 [(mo, .inr (15, [.ref e0, .ref c1, .ref c2, .ref c3, .ref c4, .ref c5, .ref q1, .int (nI 0), .int (nI 0), .int 0, .int (nI 9), .int 0])), (q1, aI k 81 (upd (fun j9 => nI ((ad (sb g c 4) (c + 9) 1) j9)) (c - 1) (((fun j9 => nI ((ad (sb g c 4) (c + 9) 1) j9)) (c - 1)) + 1)))] rfl (by omega) (by first | decide | omega) rfl rfl dX11_picture_173 ?_
                        refine G.fn (fun j9 => nI ((ad (ad (sb g c 4) (c + 9) 1) (c - 1) 1) j9)) 1 [(mo, .inr (15, [.ref e0, .ref c1, .ref c2, .ref c3, .ref c4, .ref c5, .ref q1, .int (nI 0), .int (nI 0), .int 0, .int (nI 9), .int 0])), (q1, aI k 81 (fun j9 => nI ((ad (ad (sb g c 4) (c + 9) 1) (c - 1) 1) j9)))] rfl (fun j hj => by exact ad_step _ _ _ j) rfl ?_
                        refine g_iload (pc := 174) C 4 rfl dX11_picture_174 ?_
                        refine g_iload_n (pc := 176) C 1 rfl rfl dX11_picture_176 ?_
                        refine g_irem (pc := 177) C (by first | assumption | decide) dX11_picture_177 ?_
                        refine G.eqs (st' := [.int (nI (c % 9))]) (congrArg (β := List Value) (fun z9 => [.int z9]) (show (((nI c) - (nI c) / (nI 9) * (nI 9)) : Int32) = (nI (c % 9)) from pk_rem (by omega) (by decide) (by decide))) ?_
                        refine g_iload_n (pc := 178) C 1 rfl rfl dX11_picture_178 ?_
                        refine g_iconst (pc := 179) (v := 1) C (by decide) dX11_picture_179 ?_
                        refine g_isub (pc := 180) C dX11_picture_180 ?_
                        refine G.eqs (st' := [.int (nI 8), .int (nI (c % 9))]) (congrArg (β := List Value) (fun z9 => [.int z9, .int (nI (c % 9))]) (show (((nI 9) - 1) : Int32) = (nI 8) from by decide)) ?_
                        refine g_icmp_ge (pc := 181) C 197 (by decide) dX11_picture_181 (fun c_181 => ?_) (fun c_181 => ?_)
                        · have k181 : 8 ≤ c % 9 := by rcases Nat.lt_or_ge (c % 9) (8) with q | q; exact absurd (show nI (8) ≤ nI (c % 9) from c_181) (nI_ge q (by omega)); exact q
                          refine g_iinc (pc := 197) (n := 1) (v := (nI ((sumN v (9 * 9)) + 1))) C 3 [(3, .int (nI ((sumN v (9 * 9)) + 1))), (0, .ref mo), (1, .int (nI 9)), (2, .int (nI m)), (4, .int (nI c))] rfl (nI_1 (sumN v (9 * 9))) dX11_picture_197 (by decide) rfl ?_
                          refine g_iconst (pc := 200) (v := (-1)) C (by decide) dX11_picture_200 ?_
                          refine g_istore (pc := 201) C [(4, .int (-1)), (3, .int (nI ((sumN v (9 * 9)) + 1))), (0, .ref mo), (1, .int (nI 9)), (2, .int (nI m))] dX11_picture_201 (by decide) rfl ?_
                          refine g_iinc (pc := 203) (n := 1) (v := ((-1) + 1)) C 0 [(4, .int ((-1) + 1)), (3, .int (nI ((sumN v (9 * 9)) + 1))), (0, .ref mo), (1, .int (nI 9)), (2, .int (nI m))] rfl rfl dX11_picture_203 (by decide) rfl ?_
                          refine g_goto (pc := 206) C 75 (by decide) dX11_picture_206 ?_
                          refine G.loc [2, 3, 4, 1, 0] (lv' := [(0, .ref mo), (1, .int (nI 9)), (2, .int (nI m)), (3, .int (nI ((sumN v (9 * 9)) + 1))), (4, .int ((-1) + 1))]) rfl ?_
                          refine G.fn (fun j9 => nI ((tpl 9 c 1 g) j9)) 1 [(mo, .inr (15, [.ref e0, .ref c1, .ref c2, .ref c3, .ref c4, .ref c5, .ref q1, .int (nI 0), .int (nI 0), .int 0, .int (nI 9), .int 0])), (q1, aI k 81 (fun j9 => nI ((tpl 9 c 1 g) j9)))] rfl (fun j hj => by first | rfl | (exact congrArg nI (by simp only [ad, sb, tpl, nbr]; repeat' (first | omega | split)))) rfl ?_
                          refine G.eql (lv' := [(0, .ref mo), (1, .int (nI 9)), (2, .int (nI m)), (3, .int (nI (sumN (adv v c 1) (9 * 9)))), (4, .int (nI 0))]) ((congrArg (β := List (Nat × Value)) (fun z9 => [(0, .ref mo), (1, .int (nI 9)), (2, .int (nI m)), (3, .int z9), (4, .int ((-1) + 1))]) (show ((nI ((sumN v (9 * 9)) + 1)) : Int32) = (nI (sumN (adv v c 1) (9 * 9))) from by first | rfl | decide | (rw [sumN_adv1 _ _ _ _ (show c < (9 * 9) by omega)]))).trans (congrArg (β := List (Nat × Value)) (fun z9 => [(0, .ref mo), (1, .int (nI 9)), (2, .int (nI m)), (3, .int (nI (sumN (adv v c 1) (9 * 9)))), (4, .int z9)]) (show (((-1) + 1) : Int32) = (nI 0) from by first | rfl | decide | (rw [sumN_adv1 _ _ _ _ (show c < (9 * 9) by omega)])))) ?_
                          exact ih_75 0 (tpl 9 c 1 g) (adv v c 1) (by first | exact hW | exact went_step (by decide) hW (show c < (9 * 9) by omega) (by omega)) (by omega) (by first | exact fun j hj => absurd hj (Nat.not_lt_zero j) | exact fun j hj => (by rcases Nat.lt_or_ge j c with q | q; exact hq j q; rw [show j = c by omega]; exact k93)) (by first | omega | (rw [sumN_adv1 _ _ _ _ (show c < (9 * 9) by omega)]; omega))
                        · have k181 : c % 9 < 8 := by rcases Nat.lt_or_ge (c % 9) (8) with q | q; exact q; exact absurd (show nI (8) ≤ nI (c % 9) from nI_le q (by omega)) c_181
                          refine g_aload_n (pc := 184) C 0 rfl rfl dX11_picture_184 ?_
                          refine g_get (pc := 185) C (T := TX11) inX11 0 rfl rfl 6 (by decide) q_293 rfl rfl dX11_picture_185 ?_
                          refine g_iload (pc := 188) C 4 rfl dX11_picture_188 ?_
                          refine g_iconst (pc := 190) (v := 1) C (by decide) dX11_picture_190 ?_
                          refine g_iadd (pc := 191) C dX11_picture_191 ?_
                          refine G.eqs (st' := [.int (nI (c + 1)), .ref q1]) (congrArg (β := List Value) (fun z9 => [.int z9, .ref q1]) (show (((nI c) + 1) : Int32) = (nI (c + 1)) from nI_1 c)) ?_
                          refine g_dup2 (pc := 192) C rfl rfl dX11_picture_192 ?_
                          refine g_iald_n (pc := 193) C (j := (c + 1)) 1 rfl (by omega) (by first | decide | omega) rfl dX11_picture_193 ?_
                          refine g_iconst (pc := 194) (v := 1) C (by decide) dX11_picture_194 ?_
                          refine g_iadd (pc := 195) C dX11_picture_195 ?_
                          refine g_iast_n (pc := 196) C (j := (c + 1)) 1 [(mo, .inr (15, [.ref e0, .ref c1, .ref c2, .ref c3, .ref c4, .ref c5, .ref q1, .int (nI 0), .int (nI 0), .int 0, .int (nI 9), .int 0])), (q1, aI k 81 (upd (fun j9 => nI ((ad (ad (sb g c 4) (c + 9) 1) (c - 1) 1) j9)) (c + 1) (((fun j9 => nI ((ad (ad (sb g c 4) (c + 9) 1) (c - 1) 1) j9)) (c + 1)) + 1)))] rfl (by omega) (by first | decide | omega) rfl rfl dX11_picture_196 ?_
                          refine G.fn (fun j9 => nI ((ad (ad (ad (sb g c 4) (c + 9) 1) (c - 1) 1) (c + 1) 1) j9)) 1 [(mo, .inr (15, [.ref e0, .ref c1, .ref c2, .ref c3, .ref c4, .ref c5, .ref q1, .int (nI 0), .int (nI 0), .int 0, .int (nI 9), .int 0])), (q1, aI k 81 (fun j9 => nI ((ad (ad (ad (sb g c 4) (c + 9) 1) (c - 1) 1) (c + 1) 1) j9)))] rfl (fun j hj => by exact ad_step _ _ _ j) rfl ?_
                          refine g_iinc (pc := 197) (n := 1) (v := (nI ((sumN v (9 * 9)) + 1))) C 3 [(3, .int (nI ((sumN v (9 * 9)) + 1))), (0, .ref mo), (1, .int (nI 9)), (2, .int (nI m)), (4, .int (nI c))] rfl (nI_1 (sumN v (9 * 9))) dX11_picture_197 (by decide) rfl ?_
                          refine g_iconst (pc := 200) (v := (-1)) C (by decide) dX11_picture_200 ?_
                          refine g_istore (pc := 201) C [(4, .int (-1)), (3, .int (nI ((sumN v (9 * 9)) + 1))), (0, .ref mo), (1, .int (nI 9)), (2, .int (nI m))] dX11_picture_201 (by decide) rfl ?_
                          refine g_iinc (pc := 203) (n := 1) (v := ((-1) + 1)) C 0 [(4, .int ((-1) + 1)), (3, .int (nI ((sumN v (9 * 9)) + 1))), (0, .ref mo), (1, .int (nI 9)), (2, .int (nI m))] rfl rfl dX11_picture_203 (by decide) rfl ?_
                          refine g_goto (pc := 206) C 75 (by decide) dX11_picture_206 ?_
                          refine G.loc [2, 3, 4, 1, 0] (lv' := [(0, .ref mo), (1, .int (nI 9)), (2, .int (nI m)), (3, .int (nI ((sumN v (9 * 9)) + 1))), (4, .int ((-1) + 1))]) rfl ?_
                          refine G.fn (fun j9 => nI ((tpl 9 c 1 g) j9)) 1 [(mo, .inr (15, [.ref e0, .ref c1, .ref c2, .ref c3, .ref c4, .ref c5, .ref q1, .int (nI 0), .int (nI 0), .int 0, .int (nI 9), .int 0])), (q1, aI k 81 (fun j9 => nI ((tpl 9 c 1 g) j9)))] rfl (fun j hj => by first | rfl | (exact congrArg nI (by simp only [ad, sb, tpl, nbr]; repeat' (first | omega | split)))) rfl ?_
                          refine G.eql (lv' := [(0, .ref mo), (1, .int (nI 9)), (2, .int (nI m)), (3, .int (nI (sumN (adv v c 1) (9 * 9)))), (4, .int (nI 0))]) ((congrArg (β := List (Nat × Value)) (fun z9 => [(0, .ref mo), (1, .int (nI 9)), (2, .int (nI m)), (3, .int z9), (4, .int ((-1) + 1))]) (show ((nI ((sumN v (9 * 9)) + 1)) : Int32) = (nI (sumN (adv v c 1) (9 * 9))) from by first | rfl | decide | (rw [sumN_adv1 _ _ _ _ (show c < (9 * 9) by omega)]))).trans (congrArg (β := List (Nat × Value)) (fun z9 => [(0, .ref mo), (1, .int (nI 9)), (2, .int (nI m)), (3, .int (nI (sumN (adv v c 1) (9 * 9)))), (4, .int z9)]) (show (((-1) + 1) : Int32) = (nI 0) from by first | rfl | decide | (rw [sumN_adv1 _ _ _ _ (show c < (9 * 9) by omega)])))) ?_
                          exact ih_75 0 (tpl 9 c 1 g) (adv v c 1) (by first | exact hW | exact went_step (by decide) hW (show c < (9 * 9) by omega) (by omega)) (by omega) (by first | exact fun j hj => absurd hj (Nat.not_lt_zero j) | exact fun j hj => (by rcases Nat.lt_or_ge j c with q | q; exact hq j q; rw [show j = c by omega]; exact k93)) (by first | omega | (rw [sumN_adv1 _ _ _ _ (show c < (9 * 9) by omega)]; omega))
                  · have k113 : 9 ≤ c := by rcases Nat.lt_or_ge (c) (9) with q | q; exact absurd (nI_lt q (by omega)) c_113; exact q
                    refine g_aload_n (pc := 116) C 0 rfl rfl dX11_picture_116 ?_
                    refine g_get (pc := 117) C (T := TX11) inX11 0 rfl rfl 6 (by decide) q_293 rfl rfl dX11_picture_117 ?_
                    refine g_iload (pc := 120) C 4 rfl dX11_picture_120 ?_
                    refine g_iload_n (pc := 122) C 1 rfl rfl dX11_picture_122 ?_
                    refine g_isub (pc := 123) C dX11_picture_123 ?_
                    refine G.eqs (st' := [.int (nI (c - 9)), .ref q1]) (congrArg (β := List Value) (fun z9 => [.int z9, .ref q1]) (show (((nI c) - (nI 9)) : Int32) = (nI (c - 9)) from pk_sub (by omega))) ?_
                    refine g_dup2 (pc := 124) C rfl rfl dX11_picture_124 ?_
                    refine g_iald_n (pc := 125) C (j := (c - 9)) 1 rfl (by omega) (by first | decide | omega) rfl dX11_picture_125 ?_
                    refine g_iconst (pc := 126) (v := 1) C (by decide) dX11_picture_126 ?_
                    refine g_iadd (pc := 127) C dX11_picture_127 ?_
                    refine g_iast_n (pc := 128) C (j := (c - 9)) 1 [(mo, .inr (15, [.ref e0, .ref c1, .ref c2, .ref c3, .ref c4, .ref c5, .ref q1, .int (nI 0), .int (nI 0), .int 0, .int (nI 9), .int 0])), (q1, aI k 81 (upd (fun j9 => nI ((sb g c 4) j9)) (c - 9) (((fun j9 => nI ((sb g c 4) j9)) (c - 9)) + 1)))] rfl (by omega) (by first | decide | omega) rfl rfl dX11_picture_128 ?_
                    refine G.fn (fun j9 => nI ((ad (sb g c 4) (c - 9) 1) j9)) 1 [(mo, .inr (15, [.ref e0, .ref c1, .ref c2, .ref c3, .ref c4, .ref c5, .ref q1, .int (nI 0), .int (nI 0), .int 0, .int (nI 9), .int 0])), (q1, aI k 81 (fun j9 => nI ((ad (sb g c 4) (c - 9) 1) j9)))] rfl (fun j hj => by exact ad_step _ _ _ j) rfl ?_
                    refine g_iload (pc := 129) C 4 rfl dX11_picture_129 ?_
                    refine g_iload_n (pc := 131) C 1 rfl rfl dX11_picture_131 ?_
                    refine g_iadd (pc := 132) C dX11_picture_132 ?_
                    refine G.eqs (st' := [.int (nI (c + 9))]) (congrArg (β := List Value) (fun z9 => [.int z9]) (show (((nI c) + (nI 9)) : Int32) = (nI (c + 9)) from nI_add c 9)) ?_
                    refine g_aload_n (pc := 133) C 0 rfl rfl dX11_picture_133 ?_
                    refine g_get (pc := 134) C (T := TX11) inX11 0 rfl rfl 6 (by decide) q_293 rfl rfl dX11_picture_134 ?_
                    refine g_alen (pc := 137) C 1 rfl (t0 := 0) rfl (v := (nI 81)) rfl dX11_picture_137 ?_
                    refine g_icmp_ge (pc := 138) C 154 (by decide) dX11_picture_138 (fun c_138 => ?_) (fun c_138 => ?_)
                    · have k138 : 81 ≤ c + 9 := by rcases Nat.lt_or_ge (c + 9) (81) with q | q; exact absurd (show nI (81) ≤ nI (c + 9) from c_138) (nI_ge q (by omega)); exact q
                      refine g_iload (pc := 154) C 4 rfl dX11_picture_154 ?_
                      refine g_iload_n (pc := 156) C 1 rfl rfl dX11_picture_156 ?_
                      refine g_irem (pc := 157) C (by first | assumption | decide) dX11_picture_157 ?_
                      refine G.eqs (st' := [.int (nI (c % 9))]) (congrArg (β := List Value) (fun z9 => [.int z9]) (show (((nI c) - (nI c) / (nI 9) * (nI 9)) : Int32) = (nI (c % 9)) from pk_rem (by omega) (by decide) (by decide))) ?_
                      refine g_if_le (pc := 158) C 174 (by decide) dX11_picture_158 (fun c_158 => ?_) (fun c_158 => ?_)
                      · have k158 : c % 9 = 0 := by rcases Nat.eq_zero_or_pos (c % 9) with q | q; exact q; exact absurd c_158 (nI_nle q (by omega))
                        refine g_iload (pc := 174) C 4 rfl dX11_picture_174 ?_
                        refine g_iload_n (pc := 176) C 1 rfl rfl dX11_picture_176 ?_
                        refine g_irem (pc := 177) C (by first | assumption | decide) dX11_picture_177 ?_
                        refine G.eqs (st' := [.int (nI (c % 9))]) (congrArg (β := List Value) (fun z9 => [.int z9]) (show (((nI c) - (nI c) / (nI 9) * (nI 9)) : Int32) = (nI (c % 9)) from pk_rem (by omega) (by decide) (by decide))) ?_
                        refine g_iload_n (pc := 178) C 1 rfl rfl dX11_picture_178 ?_
                        refine g_iconst (pc := 179) (v := 1) C (by decide) dX11_picture_179 ?_
                        refine g_isub (pc := 180) C dX11_picture_180 ?_
                        refine G.eqs (st' := [.int (nI 8), .int (nI (c % 9))]) (congrArg (β := List Value) (fun z9 => [.int z9, .int (nI (c % 9))]) (show (((nI 9) - 1) : Int32) = (nI 8) from by decide)) ?_
                        refine g_icmp_ge (pc := 181) C 197 (by decide) dX11_picture_181 (fun c_181 => ?_) (fun c_181 => ?_)
                        · have k181 : 8 ≤ c % 9 := by rcases Nat.lt_or_ge (c % 9) (8) with q | q; exact absurd (show nI (8) ≤ nI (c % 9) from c_181) (nI_ge q (by omega)); exact q
                          refine g_iinc (pc := 197) (n := 1) (v := (nI ((sumN v (9 * 9)) + 1))) C 3 [(3, .int (nI ((sumN v (9 * 9)) + 1))), (0, .ref mo), (1, .int (nI 9)), (2, .int (nI m)), (4, .int (nI c))] rfl (nI_1 (sumN v (9 * 9))) dX11_picture_197 (by decide) rfl ?_
                          refine g_iconst (pc := 200) (v := (-1)) C (by decide) dX11_picture_200 ?_
                          refine g_istore (pc := 201) C [(4, .int (-1)), (3, .int (nI ((sumN v (9 * 9)) + 1))), (0, .ref mo), (1, .int (nI 9)), (2, .int (nI m))] dX11_picture_201 (by decide) rfl ?_
                          refine g_iinc (pc := 203) (n := 1) (v := ((-1) + 1)) C 0 [(4, .int ((-1) + 1)), (3, .int (nI ((sumN v (9 * 9)) + 1))), (0, .ref mo), (1, .int (nI 9)), (2, .int (nI m))] rfl rfl dX11_picture_203 (by decide) rfl ?_
                          refine g_goto (pc := 206) C 75 (by decide) dX11_picture_206 ?_
                          refine G.loc [2, 3, 4, 1, 0] (lv' := [(0, .ref mo), (1, .int (nI 9)), (2, .int (nI m)), (3, .int (nI ((sumN v (9 * 9)) + 1))), (4, .int ((-1) + 1))]) rfl ?_
                          refine G.fn (fun j9 => nI ((tpl 9 c 1 g) j9)) 1 [(mo, .inr (15, [.ref e0, .ref c1, .ref c2, .ref c3, .ref c4, .ref c5, .ref q1, .int (nI 0), .int (nI 0), .int 0, .int (nI 9), .int 0])), (q1, aI k 81 (fun j9 => nI ((tpl 9 c 1 g) j9)))] rfl (fun j hj => by first | rfl | (exact congrArg nI (by simp only [ad, sb, tpl, nbr]; repeat' (first | omega | split)))) rfl ?_
                          refine G.eql (lv' := [(0, .ref mo), (1, .int (nI 9)), (2, .int (nI m)), (3, .int (nI (sumN (adv v c 1) (9 * 9)))), (4, .int (nI 0))]) ((congrArg (β := List (Nat × Value)) (fun z9 => [(0, .ref mo), (1, .int (nI 9)), (2, .int (nI m)), (3, .int z9), (4, .int ((-1) + 1))]) (show ((nI ((sumN v (9 * 9)) + 1)) : Int32) = (nI (sumN (adv v c 1) (9 * 9))) from by first | rfl | decide | (rw [sumN_adv1 _ _ _ _ (show c < (9 * 9) by omega)]))).trans (congrArg (β := List (Nat × Value)) (fun z9 => [(0, .ref mo), (1, .int (nI 9)), (2, .int (nI m)), (3, .int (nI (sumN (adv v c 1) (9 * 9)))), (4, .int z9)]) (show (((-1) + 1) : Int32) = (nI 0) from by first | rfl | decide | (rw [sumN_adv1 _ _ _ _ (show c < (9 * 9) by omega)])))) ?_
                          exact ih_75 0 (tpl 9 c 1 g) (adv v c 1) (by first | exact hW | exact went_step (by decide) hW (show c < (9 * 9) by omega) (by omega)) (by omega) (by first | exact fun j hj => absurd hj (Nat.not_lt_zero j) | exact fun j hj => (by rcases Nat.lt_or_ge j c with q | q; exact hq j q; rw [show j = c by omega]; exact k93)) (by first | omega | (rw [sumN_adv1 _ _ _ _ (show c < (9 * 9) by omega)]; omega))
                        · have k181 : c % 9 < 8 := by rcases Nat.lt_or_ge (c % 9) (8) with q | q; exact q; exact absurd (show nI (8) ≤ nI (c % 9) from nI_le q (by omega)) c_181
                          refine g_aload_n (pc := 184) C 0 rfl rfl dX11_picture_184 ?_
                          refine g_get (pc := 185) C (T := TX11) inX11 0 rfl rfl 6 (by decide) q_293 rfl rfl dX11_picture_185 ?_
                          refine g_iload (pc := 188) C 4 rfl dX11_picture_188 ?_
                          refine g_iconst (pc := 190) (v := 1) C (by decide) dX11_picture_190 ?_
                          refine g_iadd (pc := 191) C dX11_picture_191 ?_
                          refine G.eqs (st' := [.int (nI (c + 1)), .ref q1]) (congrArg (β := List Value) (fun z9 => [.int z9, .ref q1]) (show (((nI c) + 1) : Int32) = (nI (c + 1)) from nI_1 c)) ?_
                          refine g_dup2 (pc := 192) C rfl rfl dX11_picture_192 ?_
                          refine g_iald_n (pc := 193) C (j := (c + 1)) 1 rfl (by omega) (by first | decide | omega) rfl dX11_picture_193 ?_
                          refine g_iconst (pc := 194) (v := 1) C (by decide) dX11_picture_194 ?_
                          refine g_iadd (pc := 195) C dX11_picture_195 ?_
                          refine g_iast_n (pc := 196) C (j := (c + 1)) 1 [(mo, .inr (15, [.ref e0, .ref c1, .ref c2, .ref c3, .ref c4, .ref c5, .ref q1, .int (nI 0), .int (nI 0), .int 0, .int (nI 9), .int 0])), (q1, aI k 81 (upd (fun j9 => nI ((ad (sb g c 4) (c - 9) 1) j9)) (c + 1) (((fun j9 => nI ((ad (sb g c 4) (c - 9) 1) j9)) (c + 1)) + 1)))] rfl (by omega) (by first | decide | omega) rfl rfl dX11_picture_196 ?_
                          refine G.fn (fun j9 => nI ((ad (ad (sb g c 4) (c - 9) 1) (c + 1) 1) j9)) 1 [(mo, .inr (15, [.ref e0, .ref c1, .ref c2, .ref c3, .ref c4, .ref c5, .ref q1, .int (nI 0), .int (nI 0), .int 0, .int (nI 9), .int 0])), (q1, aI k 81 (fun j9 => nI ((ad (ad (sb g c 4) (c - 9) 1) (c + 1) 1) j9)))] rfl (fun j hj => by exact ad_step _ _ _ j) rfl ?_
                          refine g_iinc (pc := 197) (n := 1) (v := (nI ((sumN v (9 * 9)) + 1))) C 3 [(3, .int (nI ((sumN v (9 * 9)) + 1))), (0, .ref mo), (1, .int (nI 9)), (2, .int (nI m)), (4, .int (nI c))] rfl (nI_1 (sumN v (9 * 9))) dX11_picture_197 (by decide) rfl ?_
                          refine g_iconst (pc := 200) (v := (-1)) C (by decide) dX11_picture_200 ?_
                          refine g_istore (pc := 201) C [(4, .int (-1)), (3, .int (nI ((sumN v (9 * 9)) + 1))), (0, .ref mo), (1, .int (nI 9)), (2, .int (nI m))] dX11_picture_201 (by decide) rfl ?_
                          refine g_iinc (pc := 203) (n := 1) (v := ((-1) + 1)) C 0 [(4, .int ((-1) + 1)), (3, .int (nI ((sumN v (9 * 9)) + 1))), (0, .ref mo), (1, .int (nI 9)), (2, .int (nI m))] rfl rfl dX11_picture_203 (by decide) rfl ?_
                          refine g_goto (pc := 206) C 75 (by decide) dX11_picture_206 ?_
                          refine G.loc [2, 3, 4, 1, 0] (lv' := [(0, .ref mo), (1, .int (nI 9)), (2, .int (nI m)), (3, .int (nI ((sumN v (9 * 9)) + 1))), (4, .int ((-1) + 1))]) rfl ?_
                          refine G.fn (fun j9 => nI ((tpl 9 c 1 g) j9)) 1 [(mo, .inr (15, [.ref e0, .ref c1, .ref c2, .ref c3, .ref c4, .ref c5, .ref q1, .int (nI 0), .int (nI 0), .int 0, .int (nI 9), .int 0])), (q1, aI k 81 (fun j9 => nI ((tpl 9 c 1 g) j9)))] rfl (fun j hj => by first | rfl | (exact congrArg nI (by simp only [ad, sb, tpl, nbr]; repeat' (first | omega | split)))) rfl ?_
                          refine G.eql (lv' := [(0, .ref mo), (1, .int (nI 9)), (2, .int (nI m)), (3, .int (nI (sumN (adv v c 1) (9 * 9)))), (4, .int (nI 0))]) ((congrArg (β := List (Nat × Value)) (fun z9 => [(0, .ref mo), (1, .int (nI 9)), (2, .int (nI m)), (3, .int z9), (4, .int ((-1) + 1))]) (show ((nI ((sumN v (9 * 9)) + 1)) : Int32) = (nI (sumN (adv v c 1) (9 * 9))) from by first | rfl | decide | (rw [sumN_adv1 _ _ _ _ (show c < (9 * 9) by omega)]))).trans (congrArg (β := List (Nat × Value)) (fun z9 => [(0, .ref mo), (1, .int (nI 9)), (2, .int (nI m)), (3, .int (nI (sumN (adv v c 1) (9 * 9)))), (4, .int z9)]) (show (((-1) + 1) : Int32) = (nI 0) from by first | rfl | decide | (rw [sumN_adv1 _ _ _ _ (show c < (9 * 9) by omega)])))) ?_
                          exact ih_75 0 (tpl 9 c 1 g) (adv v c 1) (by first | exact hW | exact went_step (by decide) hW (show c < (9 * 9) by omega) (by omega)) (by omega) (by first | exact fun j hj => absurd hj (Nat.not_lt_zero j) | exact fun j hj => (by rcases Nat.lt_or_ge j c with q | q; exact hq j q; rw [show j = c by omega]; exact k93)) (by first | omega | (rw [sumN_adv1 _ _ _ _ (show c < (9 * 9) by omega)]; omega))
                      · have k158 : 0 < c % 9 := by rcases Nat.eq_zero_or_pos (c % 9) with q | q; rw [q] at c_158; exact absurd (show nI 0 ≤ 0 by decide) c_158; exact q
                        refine g_aload_n (pc := 161) C 0 rfl rfl dX11_picture_161 ?_
                        refine g_get (pc := 162) C (T := TX11) inX11 0 rfl rfl 6 (by decide) q_293 rfl rfl dX11_picture_162 ?_
                        refine g_iload (pc := 165) C 4 rfl dX11_picture_165 ?_
                        refine g_iconst (pc := 167) (v := 1) C (by decide) dX11_picture_167 ?_
                        refine g_isub (pc := 168) C dX11_picture_168 ?_
                        refine G.eqs (st' := [.int (nI (c - 1)), .ref q1]) (congrArg (β := List Value) (fun z9 => [.int z9, .ref q1]) (show (((nI c) - 1) : Int32) = (nI (c - 1)) from by rw [show (1 : Int32) = nI 1 from rfl]; exact pk_sub (by omega))) ?_
                        refine g_dup2 (pc := 169) C rfl rfl dX11_picture_169 ?_
                        refine g_iald_n (pc := 170) C (j := (c - 1)) 1 rfl (by omega) (by first | decide | omega) rfl dX11_picture_170 ?_
                        refine g_iconst (pc := 171) (v := 1) C (by decide) dX11_picture_171 ?_
                        refine g_iadd (pc := 172) C dX11_picture_172 ?_
                        refine g_iast_n (pc := 173) C (j := (c - 1)) 1 [(mo, .inr (15, [.ref e0, .ref c1, .ref c2, .ref c3, .ref c4, .ref c5, .ref q1, .int (nI 0), .int (nI 0), .int 0, .int (nI 9), .int 0])), (q1, aI k 81 (upd (fun j9 => nI ((ad (sb g c 4) (c - 9) 1) j9)) (c - 1) (((fun j9 => nI ((ad (sb g c 4) (c - 9) 1) j9)) (c - 1)) + 1)))] rfl (by omega) (by first | decide | omega) rfl rfl dX11_picture_173 ?_
                        refine G.fn (fun j9 => nI ((ad (ad (sb g c 4) (c - 9) 1) (c - 1) 1) j9)) 1 [(mo, .inr (15, [.ref e0, .ref c1, .ref c2, .ref c3, .ref c4, .ref c5, .ref q1, .int (nI 0), .int (nI 0), .int 0, .int (nI 9), .int 0])), (q1, aI k 81 (fun j9 => nI ((ad (ad (sb g c 4) (c - 9) 1) (c - 1) 1) j9)))] rfl (fun j hj => by exact ad_step _ _ _ j) rfl ?_
                        refine g_iload (pc := 174) C 4 rfl dX11_picture_174 ?_
                        refine g_iload_n (pc := 176) C 1 rfl rfl dX11_picture_176 ?_
                        refine g_irem (pc := 177) C (by first | assumption | decide) dX11_picture_177 ?_
                        refine G.eqs (st' := [.int (nI (c % 9))]) (congrArg (β := List Value) (fun z9 => [.int z9]) (show (((nI c) - (nI c) / (nI 9) * (nI 9)) : Int32) = (nI (c % 9)) from pk_rem (by omega) (by decide) (by decide))) ?_
                        refine g_iload_n (pc := 178) C 1 rfl rfl dX11_picture_178 ?_
                        refine g_iconst (pc := 179) (v := 1) C (by decide) dX11_picture_179 ?_
                        refine g_isub (pc := 180) C dX11_picture_180 ?_
                        refine G.eqs (st' := [.int (nI 8), .int (nI (c % 9))]) (congrArg (β := List Value) (fun z9 => [.int z9, .int (nI (c % 9))]) (show (((nI 9) - 1) : Int32) = (nI 8) from by decide)) ?_
                        refine g_icmp_ge (pc := 181) C 197 (by decide) dX11_picture_181 (fun c_181 => ?_) (fun c_181 => ?_)
                        · have k181 : 8 ≤ c % 9 := by rcases Nat.lt_or_ge (c % 9) (8) with q | q; exact absurd (show nI (8) ≤ nI (c % 9) from c_181) (nI_ge q (by omega)); exact q
                          refine g_iinc (pc := 197) (n := 1) (v := (nI ((sumN v (9 * 9)) + 1))) C 3 [(3, .int (nI ((sumN v (9 * 9)) + 1))), (0, .ref mo), (1, .int (nI 9)), (2, .int (nI m)), (4, .int (nI c))] rfl (nI_1 (sumN v (9 * 9))) dX11_picture_197 (by decide) rfl ?_
                          refine g_iconst (pc := 200) (v := (-1)) C (by decide) dX11_picture_200 ?_
                          refine g_istore (pc := 201) C [(4, .int (-1)), (3, .int (nI ((sumN v (9 * 9)) + 1))), (0, .ref mo), (1, .int (nI 9)), (2, .int (nI m))] dX11_picture_201 (by decide) rfl ?_
                          refine g_iinc (pc := 203) (n := 1) (v := ((-1) + 1)) C 0 [(4, .int ((-1) + 1)), (3, .int (nI ((sumN v (9 * 9)) + 1))), (0, .ref mo), (1, .int (nI 9)), (2, .int (nI m))] rfl rfl dX11_picture_203 (by decide) rfl ?_
                          refine g_goto (pc := 206) C 75 (by decide) dX11_picture_206 ?_
                          refine G.loc [2, 3, 4, 1, 0] (lv' := [(0, .ref mo), (1, .int (nI 9)), (2, .int (nI m)), (3, .int (nI ((sumN v (9 * 9)) + 1))), (4, .int ((-1) + 1))]) rfl ?_
                          refine G.fn (fun j9 => nI ((tpl 9 c 1 g) j9)) 1 [(mo, .inr (15, [.ref e0, .ref c1, .ref c2, .ref c3, .ref c4, .ref c5, .ref q1, .int (nI 0), .int (nI 0), .int 0, .int (nI 9), .int 0])), (q1, aI k 81 (fun j9 => nI ((tpl 9 c 1 g) j9)))] rfl (fun j hj => by first | rfl | (exact congrArg nI (by simp only [ad, sb, tpl, nbr]; repeat' (first | omega | split)))) rfl ?_
                          refine G.eql (lv' := [(0, .ref mo), (1, .int (nI 9)), (2, .int (nI m)), (3, .int (nI (sumN (adv v c 1) (9 * 9)))), (4, .int (nI 0))]) ((congrArg (β := List (Nat × Value)) (fun z9 => [(0, .ref mo), (1, .int (nI 9)), (2, .int (nI m)), (3, .int z9), (4, .int ((-1) + 1))]) (show ((nI ((sumN v (9 * 9)) + 1)) : Int32) = (nI (sumN (adv v c 1) (9 * 9))) from by first | rfl | decide | (rw [sumN_adv1 _ _ _ _ (show c < (9 * 9) by omega)]))).trans (congrArg (β := List (Nat × Value)) (fun z9 => [(0, .ref mo), (1, .int (nI 9)), (2, .int (nI m)), (3, .int (nI (sumN (adv v c 1) (9 * 9)))), (4, .int z9)]) (show (((-1) + 1) : Int32) = (nI 0) from by first | rfl | decide | (rw [sumN_adv1 _ _ _ _ (show c < (9 * 9) by omega)])))) ?_
                          exact ih_75 0 (tpl 9 c 1 g) (adv v c 1) (by first | exact hW | exact went_step (by decide) hW (show c < (9 * 9) by omega) (by omega)) (by omega) (by first | exact fun j hj => absurd hj (Nat.not_lt_zero j) | exact fun j hj => (by rcases Nat.lt_or_ge j c with q | q; exact hq j q; rw [show j = c by omega]; exact k93)) (by first | omega | (rw [sumN_adv1 _ _ _ _ (show c < (9 * 9) by omega)]; omega))
                        · have k181 : c % 9 < 8 := by rcases Nat.lt_or_ge (c % 9) (8) with q | q; exact q; exact absurd (show nI (8) ≤ nI (c % 9) from nI_le q (by omega)) c_181
                          refine g_aload_n (pc := 184) C 0 rfl rfl dX11_picture_184 ?_
                          refine g_get (pc := 185) C (T := TX11) inX11 0 rfl rfl 6 (by decide) q_293 rfl rfl dX11_picture_185 ?_
                          refine g_iload (pc := 188) C 4 rfl dX11_picture_188 ?_
                          refine g_iconst (pc := 190) (v := 1) C (by decide) dX11_picture_190 ?_
                          refine g_iadd (pc := 191) C dX11_picture_191 ?_
                          refine G.eqs (st' := [.int (nI (c + 1)), .ref q1]) (congrArg (β := List Value) (fun z9 => [.int z9, .ref q1]) (show (((nI c) + 1) : Int32) = (nI (c + 1)) from nI_1 c)) ?_
                          refine g_dup2 (pc := 192) C rfl rfl dX11_picture_192 ?_
                          refine g_iald_n (pc := 193) C (j := (c + 1)) 1 rfl (by omega) (by first | decide | omega) rfl dX11_picture_193 ?_
                          refine g_iconst (pc := 194) (v := 1) C (by decide) dX11_picture_194 ?_
                          refine g_iadd (pc := 195) C dX11_picture_195 ?_
                          refine g_iast_n (pc := 196) C (j := (c + 1)) 1 [(mo, .inr (15, [.ref e0, .ref c1, .ref c2, .ref c3, .ref c4, .ref c5, .ref q1, .int (nI 0), .int (nI 0), .int 0, .int (nI 9), .int 0])), (q1, aI k 81 (upd (fun j9 => nI ((ad (ad (sb g c 4) (c - 9) 1) (c - 1) 1) j9)) (c + 1) (((fun j9 => nI ((ad (ad (sb g c 4) (c - 9) 1) (c - 1) 1) j9)) (c + 1)) + 1)))] rfl (by omega) (by first | decide | omega) rfl rfl dX11_picture_196 ?_
                          refine G.fn (fun j9 => nI ((ad (ad (ad (sb g c 4) (c - 9) 1) (c - 1) 1) (c + 1) 1) j9)) 1 [(mo, .inr (15, [.ref e0, .ref c1, .ref c2, .ref c3, .ref c4, .ref c5, .ref q1, .int (nI 0), .int (nI 0), .int 0, .int (nI 9), .int 0])), (q1, aI k 81 (fun j9 => nI ((ad (ad (ad (sb g c 4) (c - 9) 1) (c - 1) 1) (c + 1) 1) j9)))] rfl (fun j hj => by exact ad_step _ _ _ j) rfl ?_
                          refine g_iinc (pc := 197) (n := 1) (v := (nI ((sumN v (9 * 9)) + 1))) C 3 [(3, .int (nI ((sumN v (9 * 9)) + 1))), (0, .ref mo), (1, .int (nI 9)), (2, .int (nI m)), (4, .int (nI c))] rfl (nI_1 (sumN v (9 * 9))) dX11_picture_197 (by decide) rfl ?_
                          refine g_iconst (pc := 200) (v := (-1)) C (by decide) dX11_picture_200 ?_
                          refine g_istore (pc := 201) C [(4, .int (-1)), (3, .int (nI ((sumN v (9 * 9)) + 1))), (0, .ref mo), (1, .int (nI 9)), (2, .int (nI m))] dX11_picture_201 (by decide) rfl ?_
                          refine g_iinc (pc := 203) (n := 1) (v := ((-1) + 1)) C 0 [(4, .int ((-1) + 1)), (3, .int (nI ((sumN v (9 * 9)) + 1))), (0, .ref mo), (1, .int (nI 9)), (2, .int (nI m))] rfl rfl dX11_picture_203 (by decide) rfl ?_
                          refine g_goto (pc := 206) C 75 (by decide) dX11_picture_206 ?_
                          refine G.loc [2, 3, 4, 1, 0] (lv' := [(0, .ref mo), (1, .int (nI 9)), (2, .int (nI m)), (3, .int (nI ((sumN v (9 * 9)) + 1))), (4, .int ((-1) + 1))]) rfl ?_
                          refine G.fn (fun j9 => nI ((tpl 9 c 1 g) j9)) 1 [(mo, .inr (15, [.ref e0, .ref c1, .ref c2, .ref c3, .ref c4, .ref c5, .ref q1, .int (nI 0), .int (nI 0), .int 0, .int (nI 9), .int 0])), (q1, aI k 81 (fun j9 => nI ((tpl 9 c 1 g) j9)))] rfl (fun j hj => by first | rfl | (exact congrArg nI (by simp only [ad, sb, tpl, nbr]; repeat' (first | omega | split)))) rfl ?_
                          refine G.eql (lv' := [(0, .ref mo), (1, .int (nI 9)), (2, .int (nI m)), (3, .int (nI (sumN (adv v c 1) (9 * 9)))), (4, .int (nI 0))]) ((congrArg (β := List (Nat × Value)) (fun z9 => [(0, .ref mo), (1, .int (nI 9)), (2, .int (nI m)), (3, .int z9), (4, .int ((-1) + 1))]) (show ((nI ((sumN v (9 * 9)) + 1)) : Int32) = (nI (sumN (adv v c 1) (9 * 9))) from by first | rfl | decide | (rw [sumN_adv1 _ _ _ _ (show c < (9 * 9) by omega)]))).trans (congrArg (β := List (Nat × Value)) (fun z9 => [(0, .ref mo), (1, .int (nI 9)), (2, .int (nI m)), (3, .int (nI (sumN (adv v c 1) (9 * 9)))), (4, .int z9)]) (show (((-1) + 1) : Int32) = (nI 0) from by first | rfl | decide | (rw [sumN_adv1 _ _ _ _ (show c < (9 * 9) by omega)])))) ?_
                          exact ih_75 0 (tpl 9 c 1 g) (adv v c 1) (by first | exact hW | exact went_step (by decide) hW (show c < (9 * 9) by omega) (by omega)) (by omega) (by first | exact fun j hj => absurd hj (Nat.not_lt_zero j) | exact fun j hj => (by rcases Nat.lt_or_ge j c with q | q; exact hq j q; rw [show j = c by omega]; exact k93)) (by first | omega | (rw [sumN_adv1 _ _ _ _ (show c < (9 * 9) by omega)]; omega))
                    · have k138 : c + 9 < 81 := by rcases Nat.lt_or_ge (c + 9) (81) with q | q; exact q; exact absurd (show nI (81) ≤ nI (c + 9) from nI_le q (by omega)) c_138
                      refine g_aload_n (pc := 141) C 0 rfl rfl dX11_picture_141 ?_
                      refine g_get (pc := 142) C (T := TX11) inX11 0 rfl rfl 6 (by decide) q_293 rfl rfl dX11_picture_142 ?_
                      refine g_iload (pc := 145) C 4 rfl dX11_picture_145 ?_
                      refine g_iload_n (pc := 147) C 1 rfl rfl dX11_picture_147 ?_
                      refine g_iadd (pc := 148) C dX11_picture_148 ?_
                      refine G.eqs (st' := [.int (nI (c + 9)), .ref q1]) (congrArg (β := List Value) (fun z9 => [.int z9, .ref q1]) (show (((nI c) + (nI 9)) : Int32) = (nI (c + 9)) from nI_add c 9)) ?_
                      refine g_dup2 (pc := 149) C rfl rfl dX11_picture_149 ?_
                      refine g_iald_n (pc := 150) C (j := (c + 9)) 1 rfl (by omega) (by first | decide | omega) rfl dX11_picture_150 ?_
                      refine g_iconst (pc := 151) (v := 1) C (by decide) dX11_picture_151 ?_
                      refine g_iadd (pc := 152) C dX11_picture_152 ?_
                      refine g_iast_n (pc := 153) C (j := (c + 9)) 1 [(mo, .inr (15, [.ref e0, .ref c1, .ref c2, .ref c3, .ref c4, .ref c5, .ref q1, .int (nI 0), .int (nI 0), .int 0, .int (nI 9), .int 0])), (q1, aI k 81 (upd (fun j9 => nI ((ad (sb g c 4) (c - 9) 1) j9)) (c + 9) (((fun j9 => nI ((ad (sb g c 4) (c - 9) 1) j9)) (c + 9)) + 1)))] rfl (by omega) (by first | decide | omega) rfl rfl dX11_picture_153 ?_
                      refine G.fn (fun j9 => nI ((ad (ad (sb g c 4) (c - 9) 1) (c + 9) 1) j9)) 1 [(mo, .inr (15, [.ref e0, .ref c1, .ref c2, .ref c3, .ref c4, .ref c5, .ref q1, .int (nI 0), .int (nI 0), .int 0, .int (nI 9), .int 0])), (q1, aI k 81 (fun j9 => nI ((ad (ad (sb g c 4) (c - 9) 1) (c + 9) 1) j9)))] rfl (fun j hj => by exact ad_step _ _ _ j) rfl ?_
                      refine g_iload (pc := 154) C 4 rfl dX11_picture_154 ?_
                      refine g_iload_n (pc := 156) C 1 rfl rfl dX11_picture_156 ?_
                      refine g_irem (pc := 157) C (by first | assumption | decide) dX11_picture_157 ?_
                      refine G.eqs (st' := [.int (nI (c % 9))]) (congrArg (β := List Value) (fun z9 => [.int z9]) (show (((nI c) - (nI c) / (nI 9) * (nI 9)) : Int32) = (nI (c % 9)) from pk_rem (by omega) (by decide) (by decide))) ?_
                      refine g_if_le (pc := 158) C 174 (by decide) dX11_picture_158 (fun c_158 => ?_) (fun c_158 => ?_)
                      · have k158 : c % 9 = 0 := by rcases Nat.eq_zero_or_pos (c % 9) with q | q; exact q; exact absurd c_158 (nI_nle q (by omega))
                        refine g_iload (pc := 174) C 4 rfl dX11_picture_174 ?_
                        refine g_iload_n (pc := 176) C 1 rfl rfl dX11_picture_176 ?_
                        refine g_irem (pc := 177) C (by first | assumption | decide) dX11_picture_177 ?_
                        refine G.eqs (st' := [.int (nI (c % 9))]) (congrArg (β := List Value) (fun z9 => [.int z9]) (show (((nI c) - (nI c) / (nI 9) * (nI 9)) : Int32) = (nI (c % 9)) from pk_rem (by omega) (by decide) (by decide))) ?_
                        refine g_iload_n (pc := 178) C 1 rfl rfl dX11_picture_178 ?_
                        refine g_iconst (pc := 179) (v := 1) C (by decide) dX11_picture_179 ?_
                        refine g_isub (pc := 180) C dX11_picture_180 ?_
                        refine G.eqs (st' := [.int (nI 8), .int (nI (c % 9))]) (congrArg (β := List Value) (fun z9 => [.int z9, .int (nI (c % 9))]) (show (((nI 9) - 1) : Int32) = (nI 8) from by decide)) ?_
                        refine g_icmp_ge (pc := 181) C 197 (by decide) dX11_picture_181 (fun c_181 => ?_) (fun c_181 => ?_)
                        · have k181 : 8 ≤ c % 9 := by rcases Nat.lt_or_ge (c % 9) (8) with q | q; exact absurd (show nI (8) ≤ nI (c % 9) from c_181) (nI_ge q (by omega)); exact q
                          refine g_iinc (pc := 197) (n := 1) (v := (nI ((sumN v (9 * 9)) + 1))) C 3 [(3, .int (nI ((sumN v (9 * 9)) + 1))), (0, .ref mo), (1, .int (nI 9)), (2, .int (nI m)), (4, .int (nI c))] rfl (nI_1 (sumN v (9 * 9))) dX11_picture_197 (by decide) rfl ?_
                          refine g_iconst (pc := 200) (v := (-1)) C (by decide) dX11_picture_200 ?_
                          refine g_istore (pc := 201) C [(4, .int (-1)), (3, .int (nI ((sumN v (9 * 9)) + 1))), (0, .ref mo), (1, .int (nI 9)), (2, .int (nI m))] dX11_picture_201 (by decide) rfl ?_
                          refine g_iinc (pc := 203) (n := 1) (v := ((-1) + 1)) C 0 [(4, .int ((-1) + 1)), (3, .int (nI ((sumN v (9 * 9)) + 1))), (0, .ref mo), (1, .int (nI 9)), (2, .int (nI m))] rfl rfl dX11_picture_203 (by decide) rfl ?_
                          refine g_goto (pc := 206) C 75 (by decide) dX11_picture_206 ?_
                          refine G.loc [2, 3, 4, 1, 0] (lv' := [(0, .ref mo), (1, .int (nI 9)), (2, .int (nI m)), (3, .int (nI ((sumN v (9 * 9)) + 1))), (4, .int ((-1) + 1))]) rfl ?_
                          refine G.fn (fun j9 => nI ((tpl 9 c 1 g) j9)) 1 [(mo, .inr (15, [.ref e0, .ref c1, .ref c2, .ref c3, .ref c4, .ref c5, .ref q1, .int (nI 0), .int (nI 0), .int 0, .int (nI 9), .int 0])), (q1, aI k 81 (fun j9 => nI ((tpl 9 c 1 g) j9)))] rfl (fun j hj => by first | rfl | (exact congrArg nI (by simp only [ad, sb, tpl, nbr]; repeat' (first | omega | split)))) rfl ?_
                          refine G.eql (lv' := [(0, .ref mo), (1, .int (nI 9)), (2, .int (nI m)), (3, .int (nI (sumN (adv v c 1) (9 * 9)))), (4, .int (nI 0))]) ((congrArg (β := List (Nat × Value)) (fun z9 => [(0, .ref mo), (1, .int (nI 9)), (2, .int (nI m)), (3, .int z9), (4, .int ((-1) + 1))]) (show ((nI ((sumN v (9 * 9)) + 1)) : Int32) = (nI (sumN (adv v c 1) (9 * 9))) from by first | rfl | decide | (rw [sumN_adv1 _ _ _ _ (show c < (9 * 9) by omega)]))).trans (congrArg (β := List (Nat × Value)) (fun z9 => [(0, .ref mo), (1, .int (nI 9)), (2, .int (nI m)), (3, .int (nI (sumN (adv v c 1) (9 * 9)))), (4, .int z9)]) (show (((-1) + 1) : Int32) = (nI 0) from by first | rfl | decide | (rw [sumN_adv1 _ _ _ _ (show c < (9 * 9) by omega)])))) ?_
                          exact ih_75 0 (tpl 9 c 1 g) (adv v c 1) (by first | exact hW | exact went_step (by decide) hW (show c < (9 * 9) by omega) (by omega)) (by omega) (by first | exact fun j hj => absurd hj (Nat.not_lt_zero j) | exact fun j hj => (by rcases Nat.lt_or_ge j c with q | q; exact hq j q; rw [show j = c by omega]; exact k93)) (by first | omega | (rw [sumN_adv1 _ _ _ _ (show c < (9 * 9) by omega)]; omega))
                        · have k181 : c % 9 < 8 := by rcases Nat.lt_or_ge (c % 9) (8) with q | q; exact q; exact absurd (show nI (8) ≤ nI (c % 9) from nI_le q (by omega)) c_181
                          refine g_aload_n (pc := 184) C 0 rfl rfl dX11_picture_184 ?_
                          refine g_get (pc := 185) C (T := TX11) inX11 0 rfl rfl 6 (by decide) q_293 rfl rfl dX11_picture_185 ?_
                          refine g_iload (pc := 188) C 4 rfl dX11_picture_188 ?_
                          refine g_iconst (pc := 190) (v := 1) C (by decide) dX11_picture_190 ?_
                          refine g_iadd (pc := 191) C dX11_picture_191 ?_
                          refine G.eqs (st' := [.int (nI (c + 1)), .ref q1]) (congrArg (β := List Value) (fun z9 => [.int z9, .ref q1]) (show (((nI c) + 1) : Int32) = (nI (c + 1)) from nI_1 c)) ?_
                          refine g_dup2 (pc := 192) C rfl rfl dX11_picture_192 ?_
                          refine g_iald_n (pc := 193) C (j := (c + 1)) 1 rfl (by omega) (by first | decide | omega) rfl dX11_picture_193 ?_
                          refine g_iconst (pc := 194) (v := 1) C (by decide) dX11_picture_194 ?_
                          refine g_iadd (pc := 195) C dX11_picture_195 ?_
                          refine g_iast_n (pc := 196) C (j := (c + 1)) 1 [(mo, .inr (15, [.ref e0, .ref c1, .ref c2, .ref c3, .ref c4, .ref c5, .ref q1, .int (nI 0), .int (nI 0), .int 0, .int (nI 9), .int 0])), (q1, aI k 81 (upd (fun j9 => nI ((ad (ad (sb g c 4) (c - 9) 1) (c + 9) 1) j9)) (c + 1) (((fun j9 => nI ((ad (ad (sb g c 4) (c - 9) 1) (c + 9) 1) j9)) (c + 1)) + 1)))] rfl (by omega) (by first | decide | omega) rfl rfl dX11_picture_196 ?_
                          refine G.fn (fun j9 => nI ((ad (ad (ad (sb g c 4) (c - 9) 1) (c + 9) 1) (c + 1) 1) j9)) 1 [(mo, .inr (15, [.ref e0, .ref c1, .ref c2, .ref c3, .ref c4, .ref c5, .ref q1, .int (nI 0), .int (nI 0), .int 0, .int (nI 9), .int 0])), (q1, aI k 81 (fun j9 => nI ((ad (ad (ad (sb g c 4) (c - 9) 1) (c + 9) 1) (c + 1) 1) j9)))] rfl (fun j hj => by exact ad_step _ _ _ j) rfl ?_
                          refine g_iinc (pc := 197) (n := 1) (v := (nI ((sumN v (9 * 9)) + 1))) C 3 [(3, .int (nI ((sumN v (9 * 9)) + 1))), (0, .ref mo), (1, .int (nI 9)), (2, .int (nI m)), (4, .int (nI c))] rfl (nI_1 (sumN v (9 * 9))) dX11_picture_197 (by decide) rfl ?_
                          refine g_iconst (pc := 200) (v := (-1)) C (by decide) dX11_picture_200 ?_
                          refine g_istore (pc := 201) C [(4, .int (-1)), (3, .int (nI ((sumN v (9 * 9)) + 1))), (0, .ref mo), (1, .int (nI 9)), (2, .int (nI m))] dX11_picture_201 (by decide) rfl ?_
                          refine g_iinc (pc := 203) (n := 1) (v := ((-1) + 1)) C 0 [(4, .int ((-1) + 1)), (3, .int (nI ((sumN v (9 * 9)) + 1))), (0, .ref mo), (1, .int (nI 9)), (2, .int (nI m))] rfl rfl dX11_picture_203 (by decide) rfl ?_
                          refine g_goto (pc := 206) C 75 (by decide) dX11_picture_206 ?_
                          refine G.loc [2, 3, 4, 1, 0] (lv' := [(0, .ref mo), (1, .int (nI 9)), (2, .int (nI m)), (3, .int (nI ((sumN v (9 * 9)) + 1))), (4, .int ((-1) + 1))]) rfl ?_
                          refine G.fn (fun j9 => nI ((tpl 9 c 1 g) j9)) 1 [(mo, .inr (15, [.ref e0, .ref c1, .ref c2, .ref c3, .ref c4, .ref c5, .ref q1, .int (nI 0), .int (nI 0), .int 0, .int (nI 9), .int 0])), (q1, aI k 81 (fun j9 => nI ((tpl 9 c 1 g) j9)))] rfl (fun j hj => by first | rfl | (exact congrArg nI (by simp only [ad, sb, tpl, nbr]; repeat' (first | omega | split)))) rfl ?_
                          refine G.eql (lv' := [(0, .ref mo), (1, .int (nI 9)), (2, .int (nI m)), (3, .int (nI (sumN (adv v c 1) (9 * 9)))), (4, .int (nI 0))]) ((congrArg (β := List (Nat × Value)) (fun z9 => [(0, .ref mo), (1, .int (nI 9)), (2, .int (nI m)), (3, .int z9), (4, .int ((-1) + 1))]) (show ((nI ((sumN v (9 * 9)) + 1)) : Int32) = (nI (sumN (adv v c 1) (9 * 9))) from by first | rfl | decide | (rw [sumN_adv1 _ _ _ _ (show c < (9 * 9) by omega)]))).trans (congrArg (β := List (Nat × Value)) (fun z9 => [(0, .ref mo), (1, .int (nI 9)), (2, .int (nI m)), (3, .int (nI (sumN (adv v c 1) (9 * 9)))), (4, .int z9)]) (show (((-1) + 1) : Int32) = (nI 0) from by first | rfl | decide | (rw [sumN_adv1 _ _ _ _ (show c < (9 * 9) by omega)])))) ?_
                          exact ih_75 0 (tpl 9 c 1 g) (adv v c 1) (by first | exact hW | exact went_step (by decide) hW (show c < (9 * 9) by omega) (by omega)) (by omega) (by first | exact fun j hj => absurd hj (Nat.not_lt_zero j) | exact fun j hj => (by rcases Nat.lt_or_ge j c with q | q; exact hq j q; rw [show j = c by omega]; exact k93)) (by first | omega | (rw [sumN_adv1 _ _ _ _ (show c < (9 * 9) by omega)]; omega))
                      · have k158 : 0 < c % 9 := by rcases Nat.eq_zero_or_pos (c % 9) with q | q; rw [q] at c_158; exact absurd (show nI 0 ≤ 0 by decide) c_158; exact q
                        refine g_aload_n (pc := 161) C 0 rfl rfl dX11_picture_161 ?_
                        refine g_get (pc := 162) C (T := TX11) inX11 0 rfl rfl 6 (by decide) q_293 rfl rfl dX11_picture_162 ?_
                        refine g_iload (pc := 165) C 4 rfl dX11_picture_165 ?_
                        refine g_iconst (pc := 167) (v := 1) C (by decide) dX11_picture_167 ?_
                        refine g_isub (pc := 168) C dX11_picture_168 ?_
                        refine G.eqs (st' := [.int (nI (c - 1)), .ref q1]) (congrArg (β := List Value) (fun z9 => [.int z9, .ref q1]) (show (((nI c) - 1) : Int32) = (nI (c - 1)) from by rw [show (1 : Int32) = nI 1 from rfl]; exact pk_sub (by omega))) ?_
                        refine g_dup2 (pc := 169) C rfl rfl dX11_picture_169 ?_
                        refine g_iald_n (pc := 170) C (j := (c - 1)) 1 rfl (by omega) (by first | decide | omega) rfl dX11_picture_170 ?_
                        refine g_iconst (pc := 171) (v := 1) C (by decide) dX11_picture_171 ?_
                        refine g_iadd (pc := 172) C dX11_picture_172 ?_
                        refine g_iast_n (pc := 173) C (j := (c - 1)) 1 [(mo, .inr (15, [.ref e0, .ref c1, .ref c2, .ref c3, .ref c4, .ref c5, .ref q1, .int (nI 0), .int (nI 0), .int 0, .int (nI 9), .int 0])), (q1, aI k 81 (upd (fun j9 => nI ((ad (ad (sb g c 4) (c - 9) 1) (c + 9) 1) j9)) (c - 1) (((fun j9 => nI ((ad (ad (sb g c 4) (c - 9) 1) (c + 9) 1) j9)) (c - 1)) + 1)))] rfl (by omega) (by first | decide | omega) rfl rfl dX11_picture_173 ?_
                        refine G.fn (fun j9 => nI ((ad (ad (ad (sb g c 4) (c - 9) 1) (c + 9) 1) (c - 1) 1) j9)) 1 [(mo, .inr (15, [.ref e0, .ref c1, .ref c2, .ref c3, .ref c4, .ref c5, .ref q1, .int (nI 0), .int (nI 0), .int 0, .int (nI 9), .int 0])), (q1, aI k 81 (fun j9 => nI ((ad (ad (ad (sb g c 4) (c - 9) 1) (c + 9) 1) (c - 1) 1) j9)))] rfl (fun j hj => by exact ad_step _ _ _ j) rfl ?_
                        refine g_iload (pc := 174) C 4 rfl dX11_picture_174 ?_
                        refine g_iload_n (pc := 176) C 1 rfl rfl dX11_picture_176 ?_
                        refine g_irem (pc := 177) C (by first | assumption | decide) dX11_picture_177 ?_
                        refine G.eqs (st' := [.int (nI (c % 9))]) (congrArg (β := List Value) (fun z9 => [.int z9]) (show (((nI c) - (nI c) / (nI 9) * (nI 9)) : Int32) = (nI (c % 9)) from pk_rem (by omega) (by decide) (by decide))) ?_
                        refine g_iload_n (pc := 178) C 1 rfl rfl dX11_picture_178 ?_
                        refine g_iconst (pc := 179) (v := 1) C (by decide) dX11_picture_179 ?_
                        refine g_isub (pc := 180) C dX11_picture_180 ?_
                        refine G.eqs (st' := [.int (nI 8), .int (nI (c % 9))]) (congrArg (β := List Value) (fun z9 => [.int z9, .int (nI (c % 9))]) (show (((nI 9) - 1) : Int32) = (nI 8) from by decide)) ?_
                        refine g_icmp_ge (pc := 181) C 197 (by decide) dX11_picture_181 (fun c_181 => ?_) (fun c_181 => ?_)
                        · have k181 : 8 ≤ c % 9 := by rcases Nat.lt_or_ge (c % 9) (8) with q | q; exact absurd (show nI (8) ≤ nI (c % 9) from c_181) (nI_ge q (by omega)); exact q
                          refine g_iinc (pc := 197) (n := 1) (v := (nI ((sumN v (9 * 9)) + 1))) C 3 [(3, .int (nI ((sumN v (9 * 9)) + 1))), (0, .ref mo), (1, .int (nI 9)), (2, .int (nI m)), (4, .int (nI c))] rfl (nI_1 (sumN v (9 * 9))) dX11_picture_197 (by decide) rfl ?_
                          refine g_iconst (pc := 200) (v := (-1)) C (by decide) dX11_picture_200 ?_
                          refine g_istore (pc := 201) C [(4, .int (-1)), (3, .int (nI ((sumN v (9 * 9)) + 1))), (0, .ref mo), (1, .int (nI 9)), (2, .int (nI m))] dX11_picture_201 (by decide) rfl ?_
                          refine g_iinc (pc := 203) (n := 1) (v := ((-1) + 1)) C 0 [(4, .int ((-1) + 1)), (3, .int (nI ((sumN v (9 * 9)) + 1))), (0, .ref mo), (1, .int (nI 9)), (2, .int (nI m))] rfl rfl dX11_picture_203 (by decide) rfl ?_
                          refine g_goto (pc := 206) C 75 (by decide) dX11_picture_206 ?_
                          refine G.loc [2, 3, 4, 1, 0] (lv' := [(0, .ref mo), (1, .int (nI 9)), (2, .int (nI m)), (3, .int (nI ((sumN v (9 * 9)) + 1))), (4, .int ((-1) + 1))]) rfl ?_
                          refine G.fn (fun j9 => nI ((tpl 9 c 1 g) j9)) 1 [(mo, .inr (15, [.ref e0, .ref c1, .ref c2, .ref c3, .ref c4, .ref c5, .ref q1, .int (nI 0), .int (nI 0), .int 0, .int (nI 9), .int 0])), (q1, aI k 81 (fun j9 => nI ((tpl 9 c 1 g) j9)))] rfl (fun j hj => by first | rfl | (exact congrArg nI (by simp only [ad, sb, tpl, nbr]; repeat' (first | omega | split)))) rfl ?_
                          refine G.eql (lv' := [(0, .ref mo), (1, .int (nI 9)), (2, .int (nI m)), (3, .int (nI (sumN (adv v c 1) (9 * 9)))), (4, .int (nI 0))]) ((congrArg (β := List (Nat × Value)) (fun z9 => [(0, .ref mo), (1, .int (nI 9)), (2, .int (nI m)), (3, .int z9), (4, .int ((-1) + 1))]) (show ((nI ((sumN v (9 * 9)) + 1)) : Int32) = (nI (sumN (adv v c 1) (9 * 9))) from by first | rfl | decide | (rw [sumN_adv1 _ _ _ _ (show c < (9 * 9) by omega)]))).trans (congrArg (β := List (Nat × Value)) (fun z9 => [(0, .ref mo), (1, .int (nI 9)), (2, .int (nI m)), (3, .int (nI (sumN (adv v c 1) (9 * 9)))), (4, .int z9)]) (show (((-1) + 1) : Int32) = (nI 0) from by first | rfl | decide | (rw [sumN_adv1 _ _ _ _ (show c < (9 * 9) by omega)])))) ?_
                          exact ih_75 0 (tpl 9 c 1 g) (adv v c 1) (by first | exact hW | exact went_step (by decide) hW (show c < (9 * 9) by omega) (by omega)) (by omega) (by first | exact fun j hj => absurd hj (Nat.not_lt_zero j) | exact fun j hj => (by rcases Nat.lt_or_ge j c with q | q; exact hq j q; rw [show j = c by omega]; exact k93)) (by first | omega | (rw [sumN_adv1 _ _ _ _ (show c < (9 * 9) by omega)]; omega))
                        · have k181 : c % 9 < 8 := by rcases Nat.lt_or_ge (c % 9) (8) with q | q; exact q; exact absurd (show nI (8) ≤ nI (c % 9) from nI_le q (by omega)) c_181
                          refine g_aload_n (pc := 184) C 0 rfl rfl dX11_picture_184 ?_
                          refine g_get (pc := 185) C (T := TX11) inX11 0 rfl rfl 6 (by decide) q_293 rfl rfl dX11_picture_185 ?_
                          refine g_iload (pc := 188) C 4 rfl dX11_picture_188 ?_
                          refine g_iconst (pc := 190) (v := 1) C (by decide) dX11_picture_190 ?_
                          refine g_iadd (pc := 191) C dX11_picture_191 ?_
                          refine G.eqs (st' := [.int (nI (c + 1)), .ref q1]) (congrArg (β := List Value) (fun z9 => [.int z9, .ref q1]) (show (((nI c) + 1) : Int32) = (nI (c + 1)) from nI_1 c)) ?_
                          refine g_dup2 (pc := 192) C rfl rfl dX11_picture_192 ?_
                          refine g_iald_n (pc := 193) C (j := (c + 1)) 1 rfl (by omega) (by first | decide | omega) rfl dX11_picture_193 ?_
                          refine g_iconst (pc := 194) (v := 1) C (by decide) dX11_picture_194 ?_
                          refine g_iadd (pc := 195) C dX11_picture_195 ?_
                          refine g_iast_n (pc := 196) C (j := (c + 1)) 1 [(mo, .inr (15, [.ref e0, .ref c1, .ref c2, .ref c3, .ref c4, .ref c5, .ref q1, .int (nI 0), .int (nI 0), .int 0, .int (nI 9), .int 0])), (q1, aI k 81 (upd (fun j9 => nI ((ad (ad (ad (sb g c 4) (c - 9) 1) (c + 9) 1) (c - 1) 1) j9)) (c + 1) (((fun j9 => nI ((ad (ad (ad (sb g c 4) (c - 9) 1) (c + 9) 1) (c - 1) 1) j9)) (c + 1)) + 1)))] rfl (by omega) (by first | decide | omega) rfl rfl dX11_picture_196 ?_
                          refine G.fn (fun j9 => nI ((ad (ad (ad (ad (sb g c 4) (c - 9) 1) (c + 9) 1) (c - 1) 1) (c + 1) 1) j9)) 1 [(mo, .inr (15, [.ref e0, .ref c1, .ref c2, .ref c3, .ref c4, .ref c5, .ref q1, .int (nI 0), .int (nI 0), .int 0, .int (nI 9), .int 0])), (q1, aI k 81 (fun j9 => nI ((ad (ad (ad (ad (sb g c 4) (c - 9) 1) (c + 9) 1) (c - 1) 1) (c + 1) 1) j9)))] rfl (fun j hj => by exact ad_step _ _ _ j) rfl ?_
                          refine g_iinc (pc := 197) (n := 1) (v := (nI ((sumN v (9 * 9)) + 1))) C 3 [(3, .int (nI ((sumN v (9 * 9)) + 1))), (0, .ref mo), (1, .int (nI 9)), (2, .int (nI m)), (4, .int (nI c))] rfl (nI_1 (sumN v (9 * 9))) dX11_picture_197 (by decide) rfl ?_
                          refine g_iconst (pc := 200) (v := (-1)) C (by decide) dX11_picture_200 ?_
                          refine g_istore (pc := 201) C [(4, .int (-1)), (3, .int (nI ((sumN v (9 * 9)) + 1))), (0, .ref mo), (1, .int (nI 9)), (2, .int (nI m))] dX11_picture_201 (by decide) rfl ?_
                          refine g_iinc (pc := 203) (n := 1) (v := ((-1) + 1)) C 0 [(4, .int ((-1) + 1)), (3, .int (nI ((sumN v (9 * 9)) + 1))), (0, .ref mo), (1, .int (nI 9)), (2, .int (nI m))] rfl rfl dX11_picture_203 (by decide) rfl ?_
                          refine g_goto (pc := 206) C 75 (by decide) dX11_picture_206 ?_
                          refine G.loc [2, 3, 4, 1, 0] (lv' := [(0, .ref mo), (1, .int (nI 9)), (2, .int (nI m)), (3, .int (nI ((sumN v (9 * 9)) + 1))), (4, .int ((-1) + 1))]) rfl ?_
                          refine G.fn (fun j9 => nI ((tpl 9 c 1 g) j9)) 1 [(mo, .inr (15, [.ref e0, .ref c1, .ref c2, .ref c3, .ref c4, .ref c5, .ref q1, .int (nI 0), .int (nI 0), .int 0, .int (nI 9), .int 0])), (q1, aI k 81 (fun j9 => nI ((tpl 9 c 1 g) j9)))] rfl (fun j hj => by first | rfl | (exact congrArg nI (by simp only [ad, sb, tpl, nbr]; repeat' (first | omega | split)))) rfl ?_
                          refine G.eql (lv' := [(0, .ref mo), (1, .int (nI 9)), (2, .int (nI m)), (3, .int (nI (sumN (adv v c 1) (9 * 9)))), (4, .int (nI 0))]) ((congrArg (β := List (Nat × Value)) (fun z9 => [(0, .ref mo), (1, .int (nI 9)), (2, .int (nI m)), (3, .int z9), (4, .int ((-1) + 1))]) (show ((nI ((sumN v (9 * 9)) + 1)) : Int32) = (nI (sumN (adv v c 1) (9 * 9))) from by first | rfl | decide | (rw [sumN_adv1 _ _ _ _ (show c < (9 * 9) by omega)]))).trans (congrArg (β := List (Nat × Value)) (fun z9 => [(0, .ref mo), (1, .int (nI 9)), (2, .int (nI m)), (3, .int (nI (sumN (adv v c 1) (9 * 9)))), (4, .int z9)]) (show (((-1) + 1) : Int32) = (nI 0) from by first | rfl | decide | (rw [sumN_adv1 _ _ _ _ (show c < (9 * 9) by omega)])))) ?_
                          exact ih_75 0 (tpl 9 c 1 g) (adv v c 1) (by first | exact hW | exact went_step (by decide) hW (show c < (9 * 9) by omega) (by omega)) (by omega) (by first | exact fun j hj => absurd hj (Nat.not_lt_zero j) | exact fun j hj => (by rcases Nat.lt_or_ge j c with q | q; exact hq j q; rw [show j = c by omega]; exact k93)) (by first | omega | (rw [sumN_adv1 _ _ _ _ (show c < (9 * 9) by omega)]; omega))
                · have k93 : g c < 4 := by rcases Nat.lt_or_ge (g c) (4) with q | q; exact q; exact absurd (show nI (4) ≤ nI (g c) from nI_le q (by omega)) c_93
                  refine g_goto (pc := 96) C 203 (by decide) dX11_picture_96 ?_
                  refine g_iinc (pc := 203) (n := 1) (v := (nI (c + 1))) C 4 [(4, .int (nI (c + 1))), (0, .ref mo), (1, .int (nI 9)), (2, .int (nI m)), (3, .int (nI (sumN v (9 * 9))))] rfl (nI_1 c) dX11_picture_203 (by decide) rfl ?_
                  refine g_goto (pc := 206) C 75 (by decide) dX11_picture_206 ?_
                  refine G.loc [1, 2, 3, 4, 0] (lv' := [(0, .ref mo), (1, .int (nI 9)), (2, .int (nI m)), (3, .int (nI (sumN v (9 * 9)))), (4, .int (nI (c + 1)))]) rfl ?_
                  exact ih_75 (c + 1) g v (by first | exact hW | exact went_step (by decide) hW (show c < (9 * 9) by omega) (by omega)) (by omega) (by first | exact fun j hj => absurd hj (Nat.not_lt_zero j) | exact fun j hj => (by rcases Nat.lt_or_ge j c with q | q; exact hq j q; rw [show j = c by omega]; exact k93)) (by first | omega | (rw [sumN_adv1 _ _ _ _ (show c < (9 * 9) by omega)]; omega))
          refine G.loc [2, 3, 4, 1, 0] (lv' := [(0, .ref mo), (1, .int (nI 9)), (2, .int (nI m)), (3, .int 0), (4, .int 0)]) rfl ?_
          refine G.eql (lv' := [(0, .ref mo), (1, .int (nI 9)), (2, .int (nI m)), (3, .int (nI (sumN (fun _ => 0) (9 * 9)))), (4, .int (nI 0))]) ((congrArg (β := List (Nat × Value)) (fun z9 => [(0, .ref mo), (1, .int (nI 9)), (2, .int (nI m)), (3, .int z9), (4, .int 0)]) (show (0 : Int32) = (nI (sumN (fun _ => 0) (9 * 9))) from by first | rfl | exact nI_0.symm | (rw [sumN_0]; exact nI_0.symm))).trans (congrArg (β := List (Nat × Value)) (fun z9 => [(0, .ref mo), (1, .int (nI 9)), (2, .int (nI m)), (3, .int (nI (sumN (fun _ => 0) (9 * 9)))), (4, .int z9)]) (show (0 : Int32) = (nI 0) from by first | rfl | exact nI_0.symm | (rw [sumN_0]; exact nI_0.symm)))) ?_
          exact key_75 ((1520 - sumN (fun _ => 0) (9 * 9)) * 82 + (81 - 0) + 1) 0 (fm 9 m) (fun _ => 0) (went_0 9 _) (by omega) (fun j hj => absurd hj (Nat.not_lt_zero j)) (Nat.lt_succ_self _)
        · exact absurd c_40 (by decide)
      · exact absurd c_25 (by decide)
set_option maxRecDepth 100000 in
set_option maxHeartbeats 400000 in
theorem c_X11_picture_x {l : Launch} {D : va_G} {k : Nat → ClassId} (mo : Nat) (e0 : Nat) (c1 : Nat) (c2 : Nat) (c3 : Nat) (c4 : Nat) (c5 : Nat) (th : Int32) (a : Int32) (y : Int32) (hbad : picOkR a y = false) : CM l D k yX11_picture cX11_picture 5 (some .int)  1 22 [.ref mo, .int a, .int y] [(mo, .inr (15, [.ref e0, .ref c1, .ref c2, .ref c3, .ref c4, .ref c5, .null, .int (nI 0), .int (nI 0), .int 0, .int 0, .int th]))] (is1 (some (.int 0)) [(mo, .inr (15, [.ref e0, .ref c1, .ref c2, .ref c3, .ref c4, .ref c5, .null, .int (nI 0), .int (nI 0), .int 0, .int 0, .int 1]))]) 0 0 0 := by
  refine CM.of (lv0 := [(0, .ref mo), (1, .int a), (2, .int y)]) (by decide +kernel) (Nat.le_of_ble_eq_true rfl) rfl ?_
  intro p9 e9 s9 m9 bl9 me9 co9 C hr hlk hin had
  refine g_aload_n (pc := 0) C 0 rfl rfl dX11_picture_0 ?_
  refine g_iload_n (pc := 1) C 1 rfl rfl dX11_picture_1 ?_
  refine g_iconst (pc := 2) (v := 3) C (by decide) dX11_picture_2 ?_
  refine g_bipush (pc := 3) (v := 9) C (by decide) dX11_picture_3 ?_
  refine g_callS (pc := 5) (cells := 0) (slots := 0) (g := 0) (As := [.int a, .int 3, .int 9]) (st := [.ref mo]) (b := 0) C (nA := 3) rfl (c_X11_in a 3 9 ) q_266 q_267 q_265 q_264 (by decide +kernel) dX11_picture_5 ⟨Nat.le_of_ble_eq_true rfl, Nat.le_of_ble_eq_true rfl⟩ [] [0] rfl (wr := [(mo, .inr (15, [.ref e0, .ref c1, .ref c2, .ref c3, .ref c4, .ref c5, .null, .int (nI 0), .int (nI 0), .int 0, .int 0, .int th]))]) rfl (by decide) (by decide) (by decide) (Nat.le_of_ble_eq_true rfl) ⟨Nat.le_of_ble_eq_true rfl, Nat.le_of_ble_eq_true rfl⟩ (fun rv w1 h1 => ?_)
  obtain ⟨rfl, rfl⟩ := h1
  refine G.aft [0] (ws' := [(mo, .inr (15, [.ref e0, .ref c1, .ref c2, .ref c3, .ref c4, .ref c5, .null, .int (nI 0), .int (nI 0), .int 0, .int 0, .int th]))]) (st' := [.int (bI (inR a 3 9)), .ref mo]) (cells' := 0) (slots' := 0) (g' := 0) (by decide) rfl rfl rfl rfl rfl ?_
  refine g_if_eq (pc := 8) C 28 (by decide) dX11_picture_8 (fun c_8 => ?_) (fun c_8 => ?_)
  · refine g_iconst (pc := 28) (v := 1) C (by decide) dX11_picture_28 ?_
    refine g_goto (pc := 29) C 33 (by decide) dX11_picture_29 ?_
    refine g_put (pc := 33) C (T := TX11) inX11 0 rfl rfl 11 (by decide) q_262 rfl tyX11 tyX11_ok nmX11 rfl [(mo, .inr (15, [.ref e0, .ref c1, .ref c2, .ref c3, .ref c4, .ref c5, .null, .int (nI 0), .int (nI 0), .int 0, .int 0, .int 1]))] (tyX11_ok 11 (by decide)) rfl (by rfl) (Nat.le_of_ble_eq_true rfl) rfl dX11_picture_33 ?_
    refine g_aload_n (pc := 36) C 0 rfl rfl dX11_picture_36 ?_
    refine g_get (pc := 37) C (T := TX11) inX11 0 rfl rfl 11 (by decide) q_262 rfl rfl dX11_picture_37 ?_
    refine g_if_le (pc := 40) C 45 (by decide) dX11_picture_40 (fun c_40 => ?_) (fun c_40 => ?_)
    · exact absurd c_40 (by decide)
    · refine g_iconst (pc := 43) (v := 0) C (by decide) dX11_picture_43 ?_
      exact g_iret (pc := 44) C hr hlk (by first | decide | omega) (by first | decide | omega) (by first | decide | omega) dX11_picture_44 ⟨rfl, rfl⟩
  · refine g_iload_n (pc := 11) C 1 rfl rfl dX11_picture_11 ?_
    refine g_iconst (pc := 12) (v := 2) C (by decide) dX11_picture_12 ?_
    refine g_irem (pc := 13) C (by first | assumption | decide) dX11_picture_13 ?_
    refine g_if_eq (pc := 14) C 28 (by decide) dX11_picture_14 (fun c_14 => ?_) (fun c_14 => ?_)
    · refine g_iconst (pc := 28) (v := 1) C (by decide) dX11_picture_28 ?_
      refine g_goto (pc := 29) C 33 (by decide) dX11_picture_29 ?_
      refine g_put (pc := 33) C (T := TX11) inX11 0 rfl rfl 11 (by decide) q_262 rfl tyX11 tyX11_ok nmX11 rfl [(mo, .inr (15, [.ref e0, .ref c1, .ref c2, .ref c3, .ref c4, .ref c5, .null, .int (nI 0), .int (nI 0), .int 0, .int 0, .int 1]))] (tyX11_ok 11 (by decide)) rfl (by rfl) (Nat.le_of_ble_eq_true rfl) rfl dX11_picture_33 ?_
      refine g_aload_n (pc := 36) C 0 rfl rfl dX11_picture_36 ?_
      refine g_get (pc := 37) C (T := TX11) inX11 0 rfl rfl 11 (by decide) q_262 rfl rfl dX11_picture_37 ?_
      refine g_if_le (pc := 40) C 45 (by decide) dX11_picture_40 (fun c_40 => ?_) (fun c_40 => ?_)
      · exact absurd c_40 (by decide)
      · refine g_iconst (pc := 43) (v := 0) C (by decide) dX11_picture_43 ?_
        exact g_iret (pc := 44) C hr hlk (by first | decide | omega) (by first | decide | omega) (by first | decide | omega) dX11_picture_44 ⟨rfl, rfl⟩
    · refine g_iload_n (pc := 17) C 2 rfl rfl dX11_picture_17 ?_
      refine g_iconst (pc := 18) (v := 0) C (by decide) dX11_picture_18 ?_
      refine g_sipush (pc := 19) (v := 300) C (by decide) dX11_picture_19 ?_
      refine g_callS (pc := 22) (cells := 0) (slots := 0) (g := 0) (As := [.int y, .int 0, .int 300]) (st := [.ref mo]) (b := 0) C (nA := 3) rfl (c_X11_in y 0 300 ) q_266 q_267 q_265 q_264 (by decide +kernel) dX11_picture_22 ⟨Nat.le_of_ble_eq_true rfl, Nat.le_of_ble_eq_true rfl⟩ [] [0] rfl (wr := [(mo, .inr (15, [.ref e0, .ref c1, .ref c2, .ref c3, .ref c4, .ref c5, .null, .int (nI 0), .int (nI 0), .int 0, .int 0, .int th]))]) rfl (by decide) (by decide) (by decide) (Nat.le_of_ble_eq_true rfl) ⟨Nat.le_of_ble_eq_true rfl, Nat.le_of_ble_eq_true rfl⟩ (fun rv w1 h1 => ?_)
      obtain ⟨rfl, rfl⟩ := h1
      refine G.aft [0] (ws' := [(mo, .inr (15, [.ref e0, .ref c1, .ref c2, .ref c3, .ref c4, .ref c5, .null, .int (nI 0), .int (nI 0), .int 0, .int 0, .int th]))]) (st' := [.int (bI (inR y 0 300)), .ref mo]) (cells' := 0) (slots' := 0) (g' := 0) (by decide) rfl rfl rfl rfl rfl ?_
      refine g_if_ne (pc := 25) C 32 (by decide) dX11_picture_25 (fun c_25 => ?_) (fun c_25 => ?_)
      · exact absurd hbad (by unfold picOkR; rw [decide_eq_true (And.intro c_8 (And.intro c_14 c_25))]; decide)
      · refine g_iconst (pc := 28) (v := 1) C (by decide) dX11_picture_28 ?_
        refine g_goto (pc := 29) C 33 (by decide) dX11_picture_29 ?_
        refine g_put (pc := 33) C (T := TX11) inX11 0 rfl rfl 11 (by decide) q_262 rfl tyX11 tyX11_ok nmX11 rfl [(mo, .inr (15, [.ref e0, .ref c1, .ref c2, .ref c3, .ref c4, .ref c5, .null, .int (nI 0), .int (nI 0), .int 0, .int 0, .int 1]))] (tyX11_ok 11 (by decide)) rfl (by rfl) (Nat.le_of_ble_eq_true rfl) rfl dX11_picture_33 ?_
        refine g_aload_n (pc := 36) C 0 rfl rfl dX11_picture_36 ?_
        refine g_get (pc := 37) C (T := TX11) inX11 0 rfl rfl 11 (by decide) q_262 rfl rfl dX11_picture_37 ?_
        refine g_if_le (pc := 40) C 45 (by decide) dX11_picture_40 (fun c_40 => ?_) (fun c_40 => ?_)
        · exact absurd c_40 (by decide)
        · refine g_iconst (pc := 43) (v := 0) C (by decide) dX11_picture_43 ?_
          exact g_iret (pc := 44) C hr hlk (by first | decide | omega) (by first | decide | omega) (by first | decide | omega) dX11_picture_44 ⟨rfl, rfl⟩
