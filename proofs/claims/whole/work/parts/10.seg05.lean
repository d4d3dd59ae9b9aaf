set_option maxRecDepth 100000 in
set_option maxHeartbeats 4000000 in
theorem sg0_measure_0 {D : Nat} {mem : am_Mem} {Q : Option Value → am_Mem → Prop} {v1 : Int32} {v2 : Int32} (h : am_J m0_measure (D + 1) 28 [.ref 8, .int v1, .int v2, .int 0, .null, .null, .null, .null] [] (am_set (am_set mem 8 1 ((mem 1 0) * v2)) 8 2 (((am_set mem 8 1 ((mem 1 0) * v2)) 1 1) * v2)) Q) : am_J m0_measure (D + 1) 0 [.ref 8, .int v1, .int v2, .null, .null, .null, .null, .null] [] mem Q := by
  refine am_aload_n (pc := 0) 0 dX0_measure_0 rfl rfl ?_
  refine am_aload_n (pc := 1) 0 dX0_measure_1 rfl rfl ?_
  refine am_getR (pc := 2) (k := 0) cl0 sh8 (by decide) (by decide) f0_30 rfl dX0_measure_2 ?_
  refine am_getI (pc := 5) (k := 0) cl1 sh1 (by decide) (by decide) f0_34 rfl dX0_measure_5 ?_
  refine am_iload_n (pc := 8) 2 dX0_measure_8 rfl rfl ?_
  refine am_imul (pc := 9) dX0_measure_9 ?_
  refine am_putI (pc := 10) (k := 1) cl0 sh8 (by decide) (by decide) f0_40 rfl rfl rfl dX0_measure_10 ?_
  refine am_aload_n (pc := 13) 0 dX0_measure_13 rfl rfl ?_
  refine am_aload_n (pc := 14) 0 dX0_measure_14 rfl rfl ?_
  refine am_getR (pc := 15) (k := 0) cl0 sh8 (by decide) (by decide) f0_30 rfl dX0_measure_15 ?_
  refine am_getI (pc := 18) (k := 1) cl1 sh1 (by decide) (by decide) f0_41 rfl dX0_measure_18 ?_
  refine am_iload_n (pc := 21) 2 dX0_measure_21 rfl rfl ?_
  refine am_imul (pc := 22) dX0_measure_22 ?_
  refine am_putI (pc := 23) (k := 2) cl0 sh8 (by decide) (by decide) f0_44 rfl rfl rfl dX0_measure_23 ?_
  refine am_iconst (pc := 26) (v := 0) dX0_measure_26 rfl ?_
  refine am_istoreE_n (pc := 27) 3 (loc' := [.ref 8, .int v1, .int v2, .int 0, .null, .null, .null, .null]) dX0_measure_27 rfl (by decide) rfl rfl ?_
  exact h
set_option maxRecDepth 100000 in
set_option maxHeartbeats 4000000 in
theorem sg0_measure_28 {D : Nat} {mem : am_Mem} {Q : Option Value → am_Mem → Prop} {v1 : Int32} {v2 : Int32} {v3 : Int32} (h : ((mem 1 4) ≤ v3 → Q none mem) ∧ (¬ (mem 1 4) ≤ v3 → vp_in v3 8 ∧ (vp_in v3 8 ∧ (vp_in v3 8 ∧ (vp_in v3 8 ∧ (vp_in v3 8 ∧ (am_Ci m6_sized D [.int ((am_set (am_set mem 9 v3.toNatClampNeg ((mem 2 v3.toNatClampNeg) * v2)) 10 v3.toNatClampNeg (((am_set mem 9 v3.toNatClampNeg ((mem 2 v3.toNatClampNeg) * v2)) 3 v3.toNatClampNeg) * v2)) 4 v3.toNatClampNeg), .int v1] (am_set (am_set mem 9 v3.toNatClampNeg ((mem 2 v3.toNatClampNeg) * v2)) 10 v3.toNatClampNeg (((am_set mem 9 v3.toNatClampNeg ((mem 2 v3.toNatClampNeg) * v2)) 3 v3.toNatClampNeg) * v2)) (fun r_1 mem_1 => vp_in v3 8 ∧ (am_Ci m6_sized D [.int (mem_1 5 v3.toNatClampNeg), .int v1] mem_1 (fun r_2 mem_2 => am_J m0_measure (D + 1) 106 [.ref 8, .int v1, .int v2, .int v3, .int r_1, .int r_2, .int 0, .null] [] mem_2 Q)))))))))) : am_J m0_measure (D + 1) 28 [.ref 8, .int v1, .int v2, .int v3, .null, .null, .null, .null] [] mem Q := by
  refine am_iload_n (pc := 28) 3 dX0_measure_28 rfl rfl ?_
  refine am_aload_n (pc := 29) 0 dX0_measure_29 rfl rfl ?_
  refine am_getR (pc := 30) (k := 0) cl0 sh8 (by decide) (by decide) f0_30 rfl dX0_measure_30 ?_
  refine am_getI (pc := 33) (k := 4) cl1 sh1 (by decide) (by decide) f0_45 rfl dX0_measure_33 ?_
  refine am_icmp_ge (pc := 36) 238 dX0_measure_36 (by decide) (fun c => ?_) (fun c => ?_)
  · replace h := h.1 c
    exact am_return rfl dX0_measure_238 h
  · replace h := h.2 c
    refine am_aload_n (pc := 39) 0 dX0_measure_39 rfl rfl ?_
    refine am_getR (pc := 40) (k := 3) cl0 sh8 (by decide) (by decide) f0_9 rfl dX0_measure_40 ?_
    refine am_iload_n (pc := 43) 3 dX0_measure_43 rfl rfl ?_
    refine am_aload_n (pc := 44) 0 dX0_measure_44 rfl rfl ?_
    refine am_getR (pc := 45) (k := 0) cl0 sh8 (by decide) (by decide) f0_30 rfl dX0_measure_45 ?_
    refine am_getR (pc := 48) (k := 5) cl1 sh1 (by decide) (by decide) f0_48 rfl dX0_measure_48 ?_
    refine am_iload_n (pc := 51) 3 dX0_measure_51 rfl rfl ?_
    refine am_iald (pc := 52) sh2 (by decide) h.1 dX0_measure_52 ?_
    replace h := h.2
    refine am_iload_n (pc := 53) 2 dX0_measure_53 rfl rfl ?_
    refine am_imul (pc := 54) dX0_measure_54 ?_
    refine am_iast (pc := 55) sh9 (by decide) h.1 dX0_measure_55 ?_
    replace h := h.2
    refine am_aload_n (pc := 56) 0 dX0_measure_56 rfl rfl ?_
    refine am_getR (pc := 57) (k := 4) cl0 sh8 (by decide) (by decide) f0_15 rfl dX0_measure_57 ?_
    refine am_iload_n (pc := 60) 3 dX0_measure_60 rfl rfl ?_
    refine am_aload_n (pc := 61) 0 dX0_measure_61 rfl rfl ?_
    refine am_getR (pc := 62) (k := 0) cl0 sh8 (by decide) (by decide) f0_30 rfl dX0_measure_62 ?_
    refine am_getR (pc := 65) (k := 6) cl1 sh1 (by decide) (by decide) f0_51 rfl dX0_measure_65 ?_
    refine am_iload_n (pc := 68) 3 dX0_measure_68 rfl rfl ?_
    refine am_iald (pc := 69) sh3 (by decide) h.1 dX0_measure_69 ?_
    replace h := h.2
    refine am_iload_n (pc := 70) 2 dX0_measure_70 rfl rfl ?_
    refine am_imul (pc := 71) dX0_measure_71 ?_
    refine am_iast (pc := 72) sh10 (by decide) h.1 dX0_measure_72 ?_
    replace h := h.2
    refine am_aload_n (pc := 73) 0 dX0_measure_73 rfl rfl ?_
    refine am_getR (pc := 74) (k := 0) cl0 sh8 (by decide) (by decide) f0_30 rfl dX0_measure_74 ?_
    refine am_getR (pc := 77) (k := 7) cl1 sh1 (by decide) (by decide) f0_54 rfl dX0_measure_77 ?_
    refine am_iload_n (pc := 80) 3 dX0_measure_80 rfl rfl ?_
    refine am_iald (pc := 81) sh4 (by decide) h.1 dX0_measure_81 ?_
    replace h := h.2
    refine am_iload_n (pc := 82) 1 dX0_measure_82 rfl rfl ?_
    refine am_callN (pc := 83) m6_sized D 2 [.int ((am_set (am_set mem 9 v3.toNatClampNeg ((mem 2 v3.toNatClampNeg) * v2)) 10 v3.toNatClampNeg (((am_set mem 9 v3.toNatClampNeg ((mem 2 v3.toNatClampNeg) * v2)) 3 v3.toNatClampNeg) * v2)) 4 v3.toNatClampNeg), .int v1] (rest := []) ok6_sized (by omega) rfl rfl l0_57 st6_sized (Nat.le_of_ble_eq_true rfl) dX0_measure_83 ?_
    refine am_Ci.use h (fun r_1 mem_1 h => ?_)
    show am_J m0_measure (D + 1) 86 [.ref 8, .int v1, .int v2, .int v3, .null, .null, .null, .null] [.int r_1] mem_1 Q
    refine am_istoreE (pc := 86) (loc' := [.ref 8, .int v1, .int v2, .int v3, .int r_1, .null, .null, .null]) dX0_measure_86 (by decide) rfl rfl ?_
    refine am_aload_n (pc := 88) 0 dX0_measure_88 rfl rfl ?_
    refine am_getR (pc := 89) (k := 0) cl0 sh8 (by decide) (by decide) f0_30 rfl dX0_measure_89 ?_
    refine am_getR (pc := 92) (k := 8) cl1 sh1 (by decide) (by decide) f0_61 rfl dX0_measure_92 ?_
    refine am_iload_n (pc := 95) 3 dX0_measure_95 rfl rfl ?_
    refine am_iald (pc := 96) sh5 (by decide) h.1 dX0_measure_96 ?_
    replace h := h.2
    refine am_iload_n (pc := 97) 1 dX0_measure_97 rfl rfl ?_
    refine am_callN (pc := 98) m6_sized D 2 [.int (mem_1 5 v3.toNatClampNeg), .int v1] (rest := []) ok6_sized (by omega) rfl rfl l0_57 st6_sized (Nat.le_of_ble_eq_true rfl) dX0_measure_98 ?_
    refine am_Ci.use h (fun r_2 mem_2 h => ?_)
    show am_J m0_measure (D + 1) 101 [.ref 8, .int v1, .int v2, .int v3, .int r_1, .null, .null, .null] [.int r_2] mem_2 Q
    refine am_istoreE (pc := 101) (loc' := [.ref 8, .int v1, .int v2, .int v3, .int r_1, .int r_2, .null, .null]) dX0_measure_101 (by decide) rfl rfl ?_
    refine am_iconst (pc := 103) (v := 0) dX0_measure_103 rfl ?_
    refine am_istoreE (pc := 104) (loc' := [.ref 8, .int v1, .int v2, .int v3, .int r_1, .int r_2, .int 0, .null]) dX0_measure_104 (by decide) rfl rfl ?_
    exact h
set_option maxRecDepth 100000 in
set_option maxHeartbeats 4000000 in
theorem sg0_measure_106 {D : Nat} {mem : am_Mem} {Q : Option Value → am_Mem → Prop} {v1 : Int32} {v2 : Int32} {v3 : Int32} {v4 : Int32} {v5 : Int32} {v6 : Int32} (h : (4 ≤ v6 → am_J m0_measure (D + 1) 28 [.ref 8, .int v1, .int v2, .int (v3 + 1), .null, .null, .null, .null] [] mem Q) ∧ (¬ 4 ≤ v6 → am_Ci m6_boxOf D [.int v3, .int v6] mem (fun r_1 mem_1 => (v6 = 0 → am_J m0_measure (D + 1) 137 [.ref 8, .int v1, .int v2, .int v3, .int v4, .int v5, .int v6, .int r_1] [.int r_1, .ref 11] mem_1 Q) ∧ (¬ v6 = 0 → (¬ v6 = 3 → vp_in v3 8 ∧ (am_J m0_measure (D + 1) 155 [.ref 8, .int v1, .int v2, .int v3, .int v4, .int v5, .int v6, .int r_1] [.int ((mem_1 9 v3.toNatClampNeg) - v4), .int r_1, .ref 11] mem_1 Q)) ∧ (v6 = 3 → am_J m0_measure (D + 1) 137 [.ref 8, .int v1, .int v2, .int v3, .int v4, .int v5, .int v6, .int r_1] [.int r_1, .ref 11] mem_1 Q))))) : am_J m0_measure (D + 1) 106 [.ref 8, .int v1, .int v2, .int v3, .int v4, .int v5, .int v6, .null] [] mem Q := by
  refine am_iload (pc := 106) dX0_measure_106 rfl ?_
  refine am_iconst (pc := 108) (v := 4) dX0_measure_108 rfl ?_
  refine am_icmp_ge (pc := 109) 232 dX0_measure_109 (by decide) (fun c => ?_) (fun c => ?_)
  · replace h := h.1 c
    refine am_iincE (pc := 232) (v := 1) (loc' := [.ref 8, .int v1, .int v2, .int (v3 + 1), .int v4, .int v5, .int v6, .null]) dX0_measure_232 rfl rfl (by decide) rfl rfl ?_
    refine am_goto (pc := 235) 28 dX0_measure_235 (by decide) ?_
    exact am_drop [4, 5, 6] h
  · replace h := h.2 c
    refine am_iload_n (pc := 112) 3 dX0_measure_112 rfl rfl ?_
    refine am_iload (pc := 113) dX0_measure_113 rfl ?_
    refine am_callN (pc := 115) m6_boxOf D 2 [.int v3, .int v6] (rest := []) ok6_boxOf (by omega) rfl rfl l0_62 st6_boxOf (Nat.le_of_ble_eq_true rfl) dX0_measure_115 ?_
    refine am_Ci.use h (fun r_1 mem_1 h => ?_)
    show am_J m0_measure (D + 1) 118 [.ref 8, .int v1, .int v2, .int v3, .int v4, .int v5, .int v6, .null] [.int r_1] mem_1 Q
    refine am_istoreE (pc := 118) (loc' := [.ref 8, .int v1, .int v2, .int v3, .int v4, .int v5, .int v6, .int r_1]) dX0_measure_118 (by decide) rfl rfl ?_
    refine am_aload_n (pc := 120) 0 dX0_measure_120 rfl rfl ?_
    refine am_getR (pc := 121) (k := 5) cl0 sh8 (by decide) (by decide) f0_18 rfl dX0_measure_121 ?_
    refine am_iload (pc := 124) dX0_measure_124 rfl ?_
    refine am_iload (pc := 126) dX0_measure_126 rfl ?_
    refine am_if_eq (pc := 128) 137 dX0_measure_128 (by decide) (fun c => ?_) (fun c => ?_)
    · replace h := h.1 c
      exact h
    · replace h := h.2 c
      refine am_iload (pc := 131) dX0_measure_131 rfl ?_
      refine am_iconst (pc := 133) (v := 3) dX0_measure_133 rfl ?_
      refine am_icmp_ne (pc := 134) 146 dX0_measure_134 (by decide) (fun c => ?_) (fun c => ?_)
      · replace h := h.1 c
        refine am_aload_n (pc := 146) 0 dX0_measure_146 rfl rfl ?_
        refine am_getR (pc := 147) (k := 3) cl0 sh8 (by decide) (by decide) f0_9 rfl dX0_measure_147 ?_
        refine am_iload_n (pc := 150) 3 dX0_measure_150 rfl rfl ?_
        refine am_iald (pc := 151) sh9 (by decide) h.1 dX0_measure_151 ?_
        replace h := h.2
        refine am_iload (pc := 152) dX0_measure_152 rfl ?_
        refine am_isub (pc := 154) dX0_measure_154 ?_
        exact h
      · replace h := h.2 c
        exact h
set_option maxRecDepth 100000 in
set_option maxHeartbeats 4000000 in
theorem sg0_measure_137 {D : Nat} {mem : am_Mem} {Q : Option Value → am_Mem → Prop} {v1 : Int32} {v2 : Int32} {v3 : Int32} {v4 : Int32} {v5 : Int32} {v6 : Int32} {v7 : Int32} {s0 : Int32} (h : vp_in v3 8 ∧ (am_J m0_measure (D + 1) 155 [.ref 8, .int v1, .int v2, .int v3, .int v4, .int v5, .int v6, .int v7] [.int (mem 9 v3.toNatClampNeg), .int s0, .ref 11] mem Q)) : am_J m0_measure (D + 1) 137 [.ref 8, .int v1, .int v2, .int v3, .int v4, .int v5, .int v6, .int v7] [.int s0, .ref 11] mem Q := by
  refine am_aload_n (pc := 137) 0 dX0_measure_137 rfl rfl ?_
  refine am_getR (pc := 138) (k := 3) cl0 sh8 (by decide) (by decide) f0_9 rfl dX0_measure_138 ?_
  refine am_iload_n (pc := 141) 3 dX0_measure_141 rfl rfl ?_
  refine am_iald (pc := 142) sh9 (by decide) h.1 dX0_measure_142 ?_
  replace h := h.2
  refine am_goto (pc := 143) 155 dX0_measure_143 (by decide) ?_
  exact h
set_option maxRecDepth 100000 in
set_option maxHeartbeats 4000000 in
theorem sg0_measure_155 {D : Nat} {mem : am_Mem} {Q : Option Value → am_Mem → Prop} {v1 : Int32} {v2 : Int32} {v3 : Int32} {v4 : Int32} {v5 : Int32} {v6 : Int32} {v7 : Int32} {s0 : Int32} {s1 : Int32} (h : vp_in s1 32 ∧ ((v6 = 0 → am_J m0_measure (D + 1) 173 [.ref 8, .int v1, .int v2, .int v3, .int v4, .int v5, .int v6, .int v7] [.int v7, .ref 13] (am_set mem 11 s1.toNatClampNeg s0) Q) ∧ (¬ v6 = 0 → (¬ v6 = 1 → vp_in v3 8 ∧ (am_J m0_measure (D + 1) 191 [.ref 8, .int v1, .int v2, .int v3, .int v4, .int v5, .int v6, .int v7] [.int (((am_set mem 11 s1.toNatClampNeg s0) 10 v3.toNatClampNeg) - v5), .int v7, .ref 13] (am_set mem 11 s1.toNatClampNeg s0) Q)) ∧ (v6 = 1 → am_J m0_measure (D + 1) 173 [.ref 8, .int v1, .int v2, .int v3, .int v4, .int v5, .int v6, .int v7] [.int v7, .ref 13] (am_set mem 11 s1.toNatClampNeg s0) Q)))) : am_J m0_measure (D + 1) 155 [.ref 8, .int v1, .int v2, .int v3, .int v4, .int v5, .int v6, .int v7] [.int s0, .int s1, .ref 11] mem Q := by
  refine am_iast (pc := 155) sh11 (by decide) h.1 dX0_measure_155 ?_
  replace h := h.2
  refine am_aload_n (pc := 156) 0 dX0_measure_156 rfl rfl ?_
  refine am_getR (pc := 157) (k := 7) cl0 sh8 (by decide) (by decide) f0_24 rfl dX0_measure_157 ?_
  refine am_iload (pc := 160) dX0_measure_160 rfl ?_
  refine am_iload (pc := 162) dX0_measure_162 rfl ?_
  refine am_if_eq (pc := 164) 173 dX0_measure_164 (by decide) (fun c => ?_) (fun c => ?_)
  · replace h := h.1 c
    exact h
  · replace h := h.2 c
    refine am_iload (pc := 167) dX0_measure_167 rfl ?_
    refine am_iconst (pc := 169) (v := 1) dX0_measure_169 rfl ?_
    refine am_icmp_ne (pc := 170) 182 dX0_measure_170 (by decide) (fun c => ?_) (fun c => ?_)
    · replace h := h.1 c
      refine am_aload_n (pc := 182) 0 dX0_measure_182 rfl rfl ?_
      refine am_getR (pc := 183) (k := 4) cl0 sh8 (by decide) (by decide) f0_15 rfl dX0_measure_183 ?_
      refine am_iload_n (pc := 186) 3 dX0_measure_186 rfl rfl ?_
      refine am_iald (pc := 187) sh10 (by decide) h.1 dX0_measure_187 ?_
      replace h := h.2
      refine am_iload (pc := 188) dX0_measure_188 rfl ?_
      refine am_isub (pc := 190) dX0_measure_190 ?_
      exact h
    · replace h := h.2 c
      exact h
set_option maxRecDepth 100000 in
set_option maxHeartbeats 4000000 in
theorem sg0_measure_173 {D : Nat} {mem : am_Mem} {Q : Option Value → am_Mem → Prop} {v1 : Int32} {v2 : Int32} {v3 : Int32} {v4 : Int32} {v5 : Int32} {v6 : Int32} {v7 : Int32} {s0 : Int32} (h : vp_in v3 8 ∧ (am_J m0_measure (D + 1) 191 [.ref 8, .int v1, .int v2, .int v3, .int v4, .int v5, .int v6, .int v7] [.int (mem 10 v3.toNatClampNeg), .int s0, .ref 13] mem Q)) : am_J m0_measure (D + 1) 173 [.ref 8, .int v1, .int v2, .int v3, .int v4, .int v5, .int v6, .int v7] [.int s0, .ref 13] mem Q := by
  refine am_aload_n (pc := 173) 0 dX0_measure_173 rfl rfl ?_
  refine am_getR (pc := 174) (k := 4) cl0 sh8 (by decide) (by decide) f0_15 rfl dX0_measure_174 ?_
  refine am_iload_n (pc := 177) 3 dX0_measure_177 rfl rfl ?_
  refine am_iald (pc := 178) sh10 (by decide) h.1 dX0_measure_178 ?_
  replace h := h.2
  refine am_goto (pc := 179) 191 dX0_measure_179 (by decide) ?_
  exact h
set_option maxRecDepth 100000 in
set_option maxHeartbeats 4000000 in
theorem sg0_measure_191 {D : Nat} {mem : am_Mem} {Q : Option Value → am_Mem → Prop} {v1 : Int32} {v2 : Int32} {v3 : Int32} {v4 : Int32} {v5 : Int32} {v6 : Int32} {v7 : Int32} {s0 : Int32} {s1 : Int32} (h : vp_in s1 32 ∧ (vp_in v7 32 ∧ (vp_in v7 32 ∧ (vp_in v7 32 ∧ (vp_in v7 32 ∧ (am_J m0_measure (D + 1) 106 [.ref 8, .int v1, .int v2, .int v3, .int v4, .int v5, .int (v6 + 1), .null] [] (am_set (am_set (am_set mem 13 s1.toNatClampNeg s0) 12 v7.toNatClampNeg (((am_set mem 13 s1.toNatClampNeg s0) 11 v7.toNatClampNeg) + v4)) 14 v7.toNatClampNeg (((am_set (am_set mem 13 s1.toNatClampNeg s0) 12 v7.toNatClampNeg (((am_set mem 13 s1.toNatClampNeg s0) 11 v7.toNatClampNeg) + v4)) 13 v7.toNatClampNeg) + v5)) Q)))))) : am_J m0_measure (D + 1) 191 [.ref 8, .int v1, .int v2, .int v3, .int v4, .int v5, .int v6, .int v7] [.int s0, .int s1, .ref 13] mem Q := by
  refine am_iast (pc := 191) sh13 (by decide) h.1 dX0_measure_191 ?_
  replace h := h.2
  refine am_aload_n (pc := 192) 0 dX0_measure_192 rfl rfl ?_
  refine am_getR (pc := 193) (k := 6) cl0 sh8 (by decide) (by decide) f0_21 rfl dX0_measure_193 ?_
  refine am_iload (pc := 196) dX0_measure_196 rfl ?_
  refine am_aload_n (pc := 198) 0 dX0_measure_198 rfl rfl ?_
  refine am_getR (pc := 199) (k := 5) cl0 sh8 (by decide) (by decide) f0_18 rfl dX0_measure_199 ?_
  refine am_iload (pc := 202) dX0_measure_202 rfl ?_
  refine am_iald (pc := 204) sh11 (by decide) h.1 dX0_measure_204 ?_
  replace h := h.2
  refine am_iload (pc := 205) dX0_measure_205 rfl ?_
  refine am_iadd (pc := 207) dX0_measure_207 ?_
  refine am_iast (pc := 208) sh12 (by decide) h.1 dX0_measure_208 ?_
  replace h := h.2
  refine am_aload_n (pc := 209) 0 dX0_measure_209 rfl rfl ?_
  refine am_getR (pc := 210) (k := 8) cl0 sh8 (by decide) (by decide) f0_27 rfl dX0_measure_210 ?_
  refine am_iload (pc := 213) dX0_measure_213 rfl ?_
  refine am_aload_n (pc := 215) 0 dX0_measure_215 rfl rfl ?_
  refine am_getR (pc := 216) (k := 7) cl0 sh8 (by decide) (by decide) f0_24 rfl dX0_measure_216 ?_
  refine am_iload (pc := 219) dX0_measure_219 rfl ?_
  refine am_iald (pc := 221) sh13 (by decide) h.1 dX0_measure_221 ?_
  replace h := h.2
  refine am_iload (pc := 222) dX0_measure_222 rfl ?_
  refine am_iadd (pc := 224) dX0_measure_224 ?_
  refine am_iast (pc := 225) sh14 (by decide) h.1 dX0_measure_225 ?_
  replace h := h.2
  refine am_iincE (pc := 226) (v := 1) (loc' := [.ref 8, .int v1, .int v2, .int v3, .int v4, .int v5, .int (v6 + 1), .int v7]) dX0_measure_226 rfl rfl (by decide) rfl rfl ?_
  refine am_goto (pc := 229) 106 dX0_measure_229 (by decide) ?_
  exact am_drop [7] h
set_option maxRecDepth 100000 in
set_option maxHeartbeats 4000000 in
theorem sg0_isFree_0 {D : Nat} {mem : am_Mem} {Q : Option Value → am_Mem → Prop} {v1 : Int32} (h : am_Ci m0_mayStand D [.ref 8, .int v1] mem (fun r_1 mem_1 => (r_1 = 0 → Q (some (.int 0)) mem_1) ∧ (¬ r_1 = 0 → am_Ci m0_sitesWithin D [.ref 8, .int v1] mem_1 (fun r_2 mem_2 => (¬ r_2 = 0 → Q (some (.int 0)) mem_2) ∧ (r_2 = 0 → Q (some (.int 1)) mem_2))))) : am_J m0_isFree (D + 1) 0 [.ref 8, .int v1] [] mem Q := by
  refine am_aload_n (pc := 0) 0 dX0_isFree_0 rfl rfl ?_
  refine am_iload_n (pc := 1) 1 dX0_isFree_1 rfl rfl ?_
  refine am_callV (pc := 2) m0_mayStand D 1 [.int v1] (rest := []) ok0_mayStand (by omega) rfl rfl sh8 (by decide) rfl l0_65 in0_mayStand se0_mayStand (Nat.le_of_ble_eq_true rfl) dX0_isFree_2 ?_
  refine am_Ci.use h (fun r_1 mem_1 h => ?_)
  show am_J m0_isFree (D + 1) 5 [.ref 8, .int v1] [.int r_1] mem_1 Q
  refine am_if_eq (pc := 5) 20 dX0_isFree_5 (by decide) (fun c => ?_) (fun c => ?_)
  · replace h := h.1 c
    refine am_iconst (pc := 20) (v := 0) dX0_isFree_20 rfl ?_
    exact am_zreturn rfl (by decide) dX0_isFree_21 h
  · replace h := h.2 c
    refine am_aload_n (pc := 8) 0 dX0_isFree_8 rfl rfl ?_
    refine am_iload_n (pc := 9) 1 dX0_isFree_9 rfl rfl ?_
    refine am_callV (pc := 10) m0_sitesWithin D 1 [.int v1] (rest := []) ok0_sitesWithin (by omega) rfl rfl sh8 (by decide) rfl l0_69 in0_sitesWithin se0_sitesWithin (Nat.le_of_ble_eq_true rfl) dX0_isFree_10 ?_
    refine am_Ci.use h (fun r_2 mem_2 h => ?_)
    show am_J m0_isFree (D + 1) 13 [.ref 8, .int v1] [.int r_2] mem_2 Q
    refine am_if_ne (pc := 13) 20 dX0_isFree_13 (by decide) (fun c => ?_) (fun c => ?_)
    · replace h := h.1 c
      refine am_iconst (pc := 20) (v := 0) dX0_isFree_20 rfl ?_
      exact am_zreturn rfl (by decide) dX0_isFree_21 h
    · replace h := h.2 c
      refine am_iconst (pc := 16) (v := 1) dX0_isFree_16 rfl ?_
      refine am_goto (pc := 17) 21 dX0_isFree_17 (by decide) ?_
      exact am_zreturn rfl (by decide) dX0_isFree_21 h
set_option maxRecDepth 100000 in
set_option maxHeartbeats 4000000 in
theorem sg0_mayStand_0 {D : Nat} {mem : am_Mem} {Q : Option Value → am_Mem → Prop} {v1 : Int32} (h : vp_in v1 32 ∧ (((mem 7 v1.toNatClampNeg) = 0 → Q (some (.int 0)) mem) ∧ (¬ (mem 7 v1.toNatClampNeg) = 0 → vp_in v1 32 ∧ (((mem 11 v1.toNatClampNeg) < 0 → Q (some (.int 0)) mem) ∧ (¬ (mem 11 v1.toNatClampNeg) < 0 → vp_in v1 32 ∧ (((mem 8 1) < (mem 12 v1.toNatClampNeg) → Q (some (.int 0)) mem) ∧ (¬ (mem 8 1) < (mem 12 v1.toNatClampNeg) → vp_in v1 32 ∧ (((mem 13 v1.toNatClampNeg) < 0 → Q (some (.int 0)) mem) ∧ (¬ (mem 13 v1.toNatClampNeg) < 0 → vp_in v1 32 ∧ (((mem 8 2) < (mem 14 v1.toNatClampNeg) → Q (some (.int 0)) mem) ∧ (¬ (mem 8 2) < (mem 14 v1.toNatClampNeg) → Q (some (.int 1)) mem))))))))))) : am_J m0_mayStand D 0 [.ref 8, .int v1] [] mem Q := by
  refine am_aload_n (pc := 0) 0 dX0_mayStand_0 rfl rfl ?_
  refine am_getR (pc := 1) (k := 0) cl0 sh8 (by decide) (by decide) f0_30 rfl dX0_mayStand_1 ?_
  refine am_getR (pc := 4) (k := 10) cl1 sh1 (by decide) (by decide) f0_73 rfl dX0_mayStand_4 ?_
  refine am_iload_n (pc := 7) 1 dX0_mayStand_7 rfl rfl ?_
  refine am_zald (pc := 8) sh7 (by decide) h.1 dX0_mayStand_8 ?_
  replace h := h.2
  refine am_if_eq (pc := 9) 60 dX0_mayStand_9 (by decide) (fun c => ?_) (fun c => ?_)
  · replace h := h.1 c
    refine am_iconst (pc := 60) (v := 0) dX0_mayStand_60 rfl ?_
    exact am_zreturn rfl (by decide) dX0_mayStand_61 h
  · replace h := h.2 c
    refine am_aload_n (pc := 12) 0 dX0_mayStand_12 rfl rfl ?_
    refine am_getR (pc := 13) (k := 5) cl0 sh8 (by decide) (by decide) f0_18 rfl dX0_mayStand_13 ?_
    refine am_iload_n (pc := 16) 1 dX0_mayStand_16 rfl rfl ?_
    refine am_iald (pc := 17) sh11 (by decide) h.1 dX0_mayStand_17 ?_
    replace h := h.2
    refine am_if_lt (pc := 18) 60 dX0_mayStand_18 (by decide) (fun c => ?_) (fun c => ?_)
    · replace h := h.1 c
      refine am_iconst (pc := 60) (v := 0) dX0_mayStand_60 rfl ?_
      exact am_zreturn rfl (by decide) dX0_mayStand_61 h
    · replace h := h.2 c
      refine am_aload_n (pc := 21) 0 dX0_mayStand_21 rfl rfl ?_
      refine am_getR (pc := 22) (k := 6) cl0 sh8 (by decide) (by decide) f0_21 rfl dX0_mayStand_22 ?_
      refine am_iload_n (pc := 25) 1 dX0_mayStand_25 rfl rfl ?_
      refine am_iald (pc := 26) sh12 (by decide) h.1 dX0_mayStand_26 ?_
      replace h := h.2
      refine am_aload_n (pc := 27) 0 dX0_mayStand_27 rfl rfl ?_
      refine am_getI (pc := 28) (k := 1) cl0 sh8 (by decide) (by decide) f0_40 rfl dX0_mayStand_28 ?_
      refine am_icmp_gt (pc := 31) 60 dX0_mayStand_31 (by decide) (fun c => ?_) (fun c => ?_)
      · replace h := h.1 c
        refine am_iconst (pc := 60) (v := 0) dX0_mayStand_60 rfl ?_
        exact am_zreturn rfl (by decide) dX0_mayStand_61 h
      · replace h := h.2 c
        refine am_aload_n (pc := 34) 0 dX0_mayStand_34 rfl rfl ?_
        refine am_getR (pc := 35) (k := 7) cl0 sh8 (by decide) (by decide) f0_24 rfl dX0_mayStand_35 ?_
        refine am_iload_n (pc := 38) 1 dX0_mayStand_38 rfl rfl ?_
        refine am_iald (pc := 39) sh13 (by decide) h.1 dX0_mayStand_39 ?_
        replace h := h.2
        refine am_if_lt (pc := 40) 60 dX0_mayStand_40 (by decide) (fun c => ?_) (fun c => ?_)
        · replace h := h.1 c
          refine am_iconst (pc := 60) (v := 0) dX0_mayStand_60 rfl ?_
          exact am_zreturn rfl (by decide) dX0_mayStand_61 h
        · replace h := h.2 c
          refine am_aload_n (pc := 43) 0 dX0_mayStand_43 rfl rfl ?_
          refine am_getR (pc := 44) (k := 8) cl0 sh8 (by decide) (by decide) f0_27 rfl dX0_mayStand_44 ?_
          refine am_iload_n (pc := 47) 1 dX0_mayStand_47 rfl rfl ?_
          refine am_iald (pc := 48) sh14 (by decide) h.1 dX0_mayStand_48 ?_
          replace h := h.2
          refine am_aload_n (pc := 49) 0 dX0_mayStand_49 rfl rfl ?_
          refine am_getI (pc := 50) (k := 2) cl0 sh8 (by decide) (by decide) f0_44 rfl dX0_mayStand_50 ?_
          refine am_icmp_gt (pc := 53) 60 dX0_mayStand_53 (by decide) (fun c => ?_) (fun c => ?_)
          · replace h := h.1 c
            refine am_iconst (pc := 60) (v := 0) dX0_mayStand_60 rfl ?_
            exact am_zreturn rfl (by decide) dX0_mayStand_61 h
          · replace h := h.2 c
            refine am_iconst (pc := 56) (v := 1) dX0_mayStand_56 rfl ?_
            refine am_goto (pc := 57) 61 dX0_mayStand_57 (by decide) ?_
            exact am_zreturn rfl (by decide) dX0_mayStand_61 h
set_option maxRecDepth 100000 in
set_option maxHeartbeats 4000000 in
theorem sg0_sitesWithin_0 {D : Nat} {mem : am_Mem} {Q : Option Value → am_Mem → Prop} {v1 : Int32} (h : am_J m0_sitesWithin D 4 [.ref 8, .int v1, .int 0, .int 0] [] mem Q) : am_J m0_sitesWithin D 0 [.ref 8, .int v1, .null, .null] [] mem Q := by
  refine am_iconst (pc := 0) (v := 0) dX0_sitesWithin_0 rfl ?_
  refine am_istoreE_n (pc := 1) 2 (loc' := [.ref 8, .int v1, .int 0, .null]) dX0_sitesWithin_1 rfl (by decide) rfl rfl ?_
  refine am_iconst (pc := 2) (v := 0) dX0_sitesWithin_2 rfl ?_
  refine am_istoreE_n (pc := 3) 3 (loc' := [.ref 8, .int v1, .int 0, .int 0]) dX0_sitesWithin_3 rfl (by decide) rfl rfl ?_
  exact h
set_option maxRecDepth 100000 in
set_option maxHeartbeats 4000000 in
theorem sg0_sitesWithin_4 {D : Nat} {mem : am_Mem} {Q : Option Value → am_Mem → Prop} {v1 : Int32} {v2 : Int32} {v3 : Int32} (h : ((mem 1 4) ≤ v3 → Q (some (.int v2)) mem) ∧ (¬ (mem 1 4) ≤ v3 → vp_in v1 32 ∧ (vp_in v3 8 ∧ (((mem 9 v3.toNatClampNeg) ≤ (mem 11 v1.toNatClampNeg) → am_J m0_sitesWithin D 81 [.ref 8, .int v1, .int v2, .int v3] [] mem Q) ∧ (¬ (mem 9 v3.toNatClampNeg) ≤ (mem 11 v1.toNatClampNeg) → vp_in v3 8 ∧ (vp_in v1 32 ∧ (((mem 12 v1.toNatClampNeg) ≤ (mem 9 v3.toNatClampNeg) → am_J m0_sitesWithin D 81 [.ref 8, .int v1, .int v2, .int v3] [] mem Q) ∧ (¬ (mem 12 v1.toNatClampNeg) ≤ (mem 9 v3.toNatClampNeg) → vp_in v1 32 ∧ (vp_in v3 8 ∧ (((mem 10 v3.toNatClampNeg) ≤ (mem 13 v1.toNatClampNeg) → am_J m0_sitesWithin D 81 [.ref 8, .int v1, .int v2, .int v3] [] mem Q) ∧ (¬ (mem 10 v3.toNatClampNeg) ≤ (mem 13 v1.toNatClampNeg) → vp_in v3 8 ∧ (vp_in v1 32 ∧ (((mem 14 v1.toNatClampNeg) ≤ (mem 10 v3.toNatClampNeg) → am_J m0_sitesWithin D 81 [.ref 8, .int v1, .int v2, .int v3] [] mem Q) ∧ (¬ (mem 14 v1.toNatClampNeg) ≤ (mem 10 v3.toNatClampNeg) → am_J m0_sitesWithin D 81 [.ref 8, .int v1, .int (v2 ||| ((1 : Int32) <<< (v3 &&& 31))), .int v3] [] mem Q)))))))))))))) : am_J m0_sitesWithin D 4 [.ref 8, .int v1, .int v2, .int v3] [] mem Q := by
  refine am_iload_n (pc := 4) 3 dX0_sitesWithin_4 rfl rfl ?_
  refine am_aload_n (pc := 5) 0 dX0_sitesWithin_5 rfl rfl ?_
  refine am_getR (pc := 6) (k := 0) cl0 sh8 (by decide) (by decide) f0_30 rfl dX0_sitesWithin_6 ?_
  refine am_getI (pc := 9) (k := 4) cl1 sh1 (by decide) (by decide) f0_45 rfl dX0_sitesWithin_9 ?_
  refine am_icmp_ge (pc := 12) 87 dX0_sitesWithin_12 (by decide) (fun c => ?_) (fun c => ?_)
  · replace h := h.1 c
    refine am_iload_n (pc := 87) 2 dX0_sitesWithin_87 rfl rfl ?_
    exact am_ireturn rfl dX0_sitesWithin_88 h
  · replace h := h.2 c
    refine am_aload_n (pc := 15) 0 dX0_sitesWithin_15 rfl rfl ?_
    refine am_getR (pc := 16) (k := 5) cl0 sh8 (by decide) (by decide) f0_18 rfl dX0_sitesWithin_16 ?_
    refine am_iload_n (pc := 19) 1 dX0_sitesWithin_19 rfl rfl ?_
    refine am_iald (pc := 20) sh11 (by decide) h.1 dX0_sitesWithin_20 ?_
    replace h := h.2
    refine am_aload_n (pc := 21) 0 dX0_sitesWithin_21 rfl rfl ?_
    refine am_getR (pc := 22) (k := 3) cl0 sh8 (by decide) (by decide) f0_9 rfl dX0_sitesWithin_22 ?_
    refine am_iload_n (pc := 25) 3 dX0_sitesWithin_25 rfl rfl ?_
    refine am_iald (pc := 26) sh9 (by decide) h.1 dX0_sitesWithin_26 ?_
    replace h := h.2
    refine am_icmp_ge (pc := 27) 81 dX0_sitesWithin_27 (by decide) (fun c => ?_) (fun c => ?_)
    · replace h := h.1 c
      exact h
    · replace h := h.2 c
      refine am_aload_n (pc := 30) 0 dX0_sitesWithin_30 rfl rfl ?_
      refine am_getR (pc := 31) (k := 3) cl0 sh8 (by decide) (by decide) f0_9 rfl dX0_sitesWithin_31 ?_
      refine am_iload_n (pc := 34) 3 dX0_sitesWithin_34 rfl rfl ?_
      refine am_iald (pc := 35) sh9 (by decide) h.1 dX0_sitesWithin_35 ?_
      replace h := h.2
      refine am_aload_n (pc := 36) 0 dX0_sitesWithin_36 rfl rfl ?_
      refine am_getR (pc := 37) (k := 6) cl0 sh8 (by decide) (by decide) f0_21 rfl dX0_sitesWithin_37 ?_
      refine am_iload_n (pc := 40) 1 dX0_sitesWithin_40 rfl rfl ?_
      refine am_iald (pc := 41) sh12 (by decide) h.1 dX0_sitesWithin_41 ?_
      replace h := h.2
      refine am_icmp_ge (pc := 42) 81 dX0_sitesWithin_42 (by decide) (fun c => ?_) (fun c => ?_)
      · replace h := h.1 c
        exact h
      · replace h := h.2 c
        refine am_aload_n (pc := 45) 0 dX0_sitesWithin_45 rfl rfl ?_
        refine am_getR (pc := 46) (k := 7) cl0 sh8 (by decide) (by decide) f0_24 rfl dX0_sitesWithin_46 ?_
        refine am_iload_n (pc := 49) 1 dX0_sitesWithin_49 rfl rfl ?_
        refine am_iald (pc := 50) sh13 (by decide) h.1 dX0_sitesWithin_50 ?_
        replace h := h.2
        refine am_aload_n (pc := 51) 0 dX0_sitesWithin_51 rfl rfl ?_
        refine am_getR (pc := 52) (k := 4) cl0 sh8 (by decide) (by decide) f0_15 rfl dX0_sitesWithin_52 ?_
        refine am_iload_n (pc := 55) 3 dX0_sitesWithin_55 rfl rfl ?_
        refine am_iald (pc := 56) sh10 (by decide) h.1 dX0_sitesWithin_56 ?_
        replace h := h.2
        refine am_icmp_ge (pc := 57) 81 dX0_sitesWithin_57 (by decide) (fun c => ?_) (fun c => ?_)
        · replace h := h.1 c
          exact h
        · replace h := h.2 c
          refine am_aload_n (pc := 60) 0 dX0_sitesWithin_60 rfl rfl ?_
          refine am_getR (pc := 61) (k := 4) cl0 sh8 (by decide) (by decide) f0_15 rfl dX0_sitesWithin_61 ?_
          refine am_iload_n (pc := 64) 3 dX0_sitesWithin_64 rfl rfl ?_
          refine am_iald (pc := 65) sh10 (by decide) h.1 dX0_sitesWithin_65 ?_
          replace h := h.2
          refine am_aload_n (pc := 66) 0 dX0_sitesWithin_66 rfl rfl ?_
          refine am_getR (pc := 67) (k := 8) cl0 sh8 (by decide) (by decide) f0_27 rfl dX0_sitesWithin_67 ?_
          refine am_iload_n (pc := 70) 1 dX0_sitesWithin_70 rfl rfl ?_
          refine am_iald (pc := 71) sh14 (by decide) h.1 dX0_sitesWithin_71 ?_
          replace h := h.2
          refine am_icmp_ge (pc := 72) 81 dX0_sitesWithin_72 (by decide) (fun c => ?_) (fun c => ?_)
          · replace h := h.1 c
            exact h
          · replace h := h.2 c
            refine am_iload_n (pc := 75) 2 dX0_sitesWithin_75 rfl rfl ?_
            refine am_iconst (pc := 76) (v := 1) dX0_sitesWithin_76 rfl ?_
            refine am_iload_n (pc := 77) 3 dX0_sitesWithin_77 rfl rfl ?_
            refine am_ishl (pc := 78) dX0_sitesWithin_78 ?_
            refine am_ior (pc := 79) dX0_sitesWithin_79 ?_
            refine am_istoreE_n (pc := 80) 2 (loc' := [.ref 8, .int v1, .int (v2 ||| ((1 : Int32) <<< (v3 &&& 31))), .int v3]) dX0_sitesWithin_80 rfl (by decide) rfl rfl ?_
            exact h
set_option maxRecDepth 100000 in
set_option maxHeartbeats 4000000 in
theorem sg0_sitesWithin_81 {D : Nat} {mem : am_Mem} {Q : Option Value → am_Mem → Prop} {v1 : Int32} {v2 : Int32} {v3 : Int32} (h : am_J m0_sitesWithin D 4 [.ref 8, .int v1, .int v2, .int (v3 + 1)] [] mem Q) : am_J m0_sitesWithin D 81 [.ref 8, .int v1, .int v2, .int v3] [] mem Q := by
  refine am_iincE (pc := 81) (v := 1) (loc' := [.ref 8, .int v1, .int v2, .int (v3 + 1)]) dX0_sitesWithin_81 rfl rfl (by decide) rfl rfl ?_
  refine am_goto (pc := 84) 4 dX0_sitesWithin_84 (by decide) ?_
  exact h
set_option maxRecDepth 100000 in
set_option maxHeartbeats 4000000 in
theorem sg0_doClash_0 {D : Nat} {mem : am_Mem} {Q : Option Value → am_Mem → Prop} {v1 : Int32} {v2 : Int32} (h : vp_in v1 32 ∧ (vp_in v2 32 ∧ ((((mem 12 v2.toNatClampNeg) + (mem 1 3)) ≤ (mem 11 v1.toNatClampNeg) → Q (some (.int 0)) mem) ∧ (¬ ((mem 12 v2.toNatClampNeg) + (mem 1 3)) ≤ (mem 11 v1.toNatClampNeg) → vp_in v2 32 ∧ (vp_in v1 32 ∧ ((((mem 12 v1.toNatClampNeg) + (mem 1 3)) ≤ (mem 11 v2.toNatClampNeg) → Q (some (.int 0)) mem) ∧ (¬ ((mem 12 v1.toNatClampNeg) + (mem 1 3)) ≤ (mem 11 v2.toNatClampNeg) → vp_in v1 32 ∧ (vp_in v2 32 ∧ ((((mem 14 v2.toNatClampNeg) + (mem 1 3)) ≤ (mem 13 v1.toNatClampNeg) → Q (some (.int 0)) mem) ∧ (¬ ((mem 14 v2.toNatClampNeg) + (mem 1 3)) ≤ (mem 13 v1.toNatClampNeg) → vp_in v2 32 ∧ (vp_in v1 32 ∧ ((((mem 14 v1.toNatClampNeg) + (mem 1 3)) ≤ (mem 13 v2.toNatClampNeg) → Q (some (.int 0)) mem) ∧ (¬ ((mem 14 v1.toNatClampNeg) + (mem 1 3)) ≤ (mem 13 v2.toNatClampNeg) → Q (some (.int 1)) mem))))))))))))) : am_J m0_doClash D 0 [.ref 8, .int v1, .int v2] [] mem Q := by
  refine am_aload_n (pc := 0) 0 dX0_doClash_0 rfl rfl ?_
  refine am_getR (pc := 1) (k := 5) cl0 sh8 (by decide) (by decide) f0_18 rfl dX0_doClash_1 ?_
  refine am_iload_n (pc := 4) 1 dX0_doClash_4 rfl rfl ?_
  refine am_iald (pc := 5) sh11 (by decide) h.1 dX0_doClash_5 ?_
  replace h := h.2
  refine am_aload_n (pc := 6) 0 dX0_doClash_6 rfl rfl ?_
  refine am_getR (pc := 7) (k := 6) cl0 sh8 (by decide) (by decide) f0_21 rfl dX0_doClash_7 ?_
  refine am_iload_n (pc := 10) 2 dX0_doClash_10 rfl rfl ?_
  refine am_iald (pc := 11) sh12 (by decide) h.1 dX0_doClash_11 ?_
  replace h := h.2
  refine am_aload_n (pc := 12) 0 dX0_doClash_12 rfl rfl ?_
  refine am_getR (pc := 13) (k := 0) cl0 sh8 (by decide) (by decide) f0_30 rfl dX0_doClash_13 ?_
  refine am_getI (pc := 16) (k := 3) cl1 sh1 (by decide) (by decide) f0_77 rfl dX0_doClash_16 ?_
  refine am_iadd (pc := 19) dX0_doClash_19 ?_
  refine am_icmp_ge (pc := 20) 96 dX0_doClash_20 (by decide) (fun c => ?_) (fun c => ?_)
  · replace h := h.1 c
    refine am_iconst (pc := 96) (v := 0) dX0_doClash_96 rfl ?_
    exact am_zreturn rfl (by decide) dX0_doClash_97 h
  · replace h := h.2 c
    refine am_aload_n (pc := 23) 0 dX0_doClash_23 rfl rfl ?_
    refine am_getR (pc := 24) (k := 5) cl0 sh8 (by decide) (by decide) f0_18 rfl dX0_doClash_24 ?_
    refine am_iload_n (pc := 27) 2 dX0_doClash_27 rfl rfl ?_
    refine am_iald (pc := 28) sh11 (by decide) h.1 dX0_doClash_28 ?_
    replace h := h.2
    refine am_aload_n (pc := 29) 0 dX0_doClash_29 rfl rfl ?_
    refine am_getR (pc := 30) (k := 6) cl0 sh8 (by decide) (by decide) f0_21 rfl dX0_doClash_30 ?_
    refine am_iload_n (pc := 33) 1 dX0_doClash_33 rfl rfl ?_
    refine am_iald (pc := 34) sh12 (by decide) h.1 dX0_doClash_34 ?_
    replace h := h.2
    refine am_aload_n (pc := 35) 0 dX0_doClash_35 rfl rfl ?_
    refine am_getR (pc := 36) (k := 0) cl0 sh8 (by decide) (by decide) f0_30 rfl dX0_doClash_36 ?_
    refine am_getI (pc := 39) (k := 3) cl1 sh1 (by decide) (by decide) f0_77 rfl dX0_doClash_39 ?_
    refine am_iadd (pc := 42) dX0_doClash_42 ?_
    refine am_icmp_ge (pc := 43) 96 dX0_doClash_43 (by decide) (fun c => ?_) (fun c => ?_)
    · replace h := h.1 c
      refine am_iconst (pc := 96) (v := 0) dX0_doClash_96 rfl ?_
      exact am_zreturn rfl (by decide) dX0_doClash_97 h
    · replace h := h.2 c
      refine am_aload_n (pc := 46) 0 dX0_doClash_46 rfl rfl ?_
      refine am_getR (pc := 47) (k := 7) cl0 sh8 (by decide) (by decide) f0_24 rfl dX0_doClash_47 ?_
      refine am_iload_n (pc := 50) 1 dX0_doClash_50 rfl rfl ?_
      refine am_iald (pc := 51) sh13 (by decide) h.1 dX0_doClash_51 ?_
      replace h := h.2
      refine am_aload_n (pc := 52) 0 dX0_doClash_52 rfl rfl ?_
      refine am_getR (pc := 53) (k := 8) cl0 sh8 (by decide) (by decide) f0_27 rfl dX0_doClash_53 ?_
      refine am_iload_n (pc := 56) 2 dX0_doClash_56 rfl rfl ?_
      refine am_iald (pc := 57) sh14 (by decide) h.1 dX0_doClash_57 ?_
      replace h := h.2
      refine am_aload_n (pc := 58) 0 dX0_doClash_58 rfl rfl ?_
      refine am_getR (pc := 59) (k := 0) cl0 sh8 (by decide) (by decide) f0_30 rfl dX0_doClash_59 ?_
      refine am_getI (pc := 62) (k := 3) cl1 sh1 (by decide) (by decide) f0_77 rfl dX0_doClash_62 ?_
      refine am_iadd (pc := 65) dX0_doClash_65 ?_
      refine am_icmp_ge (pc := 66) 96 dX0_doClash_66 (by decide) (fun c => ?_) (fun c => ?_)
      · replace h := h.1 c
        refine am_iconst (pc := 96) (v := 0) dX0_doClash_96 rfl ?_
        exact am_zreturn rfl (by decide) dX0_doClash_97 h
      · replace h := h.2 c
        refine am_aload_n (pc := 69) 0 dX0_doClash_69 rfl rfl ?_
        refine am_getR (pc := 70) (k := 7) cl0 sh8 (by decide) (by decide) f0_24 rfl dX0_doClash_70 ?_
        refine am_iload_n (pc := 73) 2 dX0_doClash_73 rfl rfl ?_
        refine am_iald (pc := 74) sh13 (by decide) h.1 dX0_doClash_74 ?_
        replace h := h.2
        refine am_aload_n (pc := 75) 0 dX0_doClash_75 rfl rfl ?_
        refine am_getR (pc := 76) (k := 8) cl0 sh8 (by decide) (by decide) f0_27 rfl dX0_doClash_76 ?_
        refine am_iload_n (pc := 79) 1 dX0_doClash_79 rfl rfl ?_
        refine am_iald (pc := 80) sh14 (by decide) h.1 dX0_doClash_80 ?_
        replace h := h.2
        refine am_aload_n (pc := 81) 0 dX0_doClash_81 rfl rfl ?_
        refine am_getR (pc := 82) (k := 0) cl0 sh8 (by decide) (by decide) f0_30 rfl dX0_doClash_82 ?_
        refine am_getI (pc := 85) (k := 3) cl1 sh1 (by decide) (by decide) f0_77 rfl dX0_doClash_85 ?_
        refine am_iadd (pc := 88) dX0_doClash_88 ?_
        refine am_icmp_ge (pc := 89) 96 dX0_doClash_89 (by decide) (fun c => ?_) (fun c => ?_)
        · replace h := h.1 c
          refine am_iconst (pc := 96) (v := 0) dX0_doClash_96 rfl ?_
          exact am_zreturn rfl (by decide) dX0_doClash_97 h
        · replace h := h.2 c
          refine am_iconst (pc := 92) (v := 1) dX0_doClash_92 rfl ?_
          refine am_goto (pc := 93) 97 dX0_doClash_93 (by decide) ?_
          exact am_zreturn rfl (by decide) dX0_doClash_97 h
set_option maxRecDepth 100000 in
set_option maxHeartbeats 4000000 in
theorem sg1_has_0 {D : Nat} {mem : am_Mem} {Q : Option Value → am_Mem → Prop} {v1 : Int32} (h : am_Ci m6_isIn D [.int v1, .int 0, .int ((mem 1 4) - (1 : Int32))] mem (fun r_1 mem_1 => (r_1 = 0 ∨ r_1 = 1) ∧ Q (some (.int r_1)) mem_1)) : am_J m1_has (D + 1) 0 [.ref 1, .int v1] [] mem Q := by
  refine am_iload_n (pc := 0) 1 dX1_has_0 rfl rfl ?_
  refine am_iconst (pc := 1) (v := 0) dX1_has_1 rfl ?_
  refine am_aload_n (pc := 2) 0 dX1_has_2 rfl rfl ?_
  refine am_getI (pc := 3) (k := 4) cl1 sh1 (by decide) (by decide) f1_24 rfl dX1_has_3 ?_
  refine am_iconst (pc := 6) (v := 1) dX1_has_6 rfl ?_
  refine am_isub (pc := 7) dX1_has_7 ?_
  refine am_callN (pc := 8) m6_isIn D 3 [.int v1, .int 0, .int ((mem 1 4) - (1 : Int32))] (rest := []) ok6_isIn (by omega) rfl rfl l1_47 st6_isIn (Nat.le_of_ble_eq_true rfl) dX1_has_8 ?_
  refine am_Ci.use h (fun r_1 mem_1 h => ?_)
  show am_J m1_has (D + 1) 11 [.ref 1, .int v1] [.int r_1] mem_1 Q
  exact am_zreturn rfl h.1 dX1_has_11 h.2
set_option maxRecDepth 100000 in
set_option maxHeartbeats 4000000 in
theorem sg1_holds_0 {D : Nat} {mem : am_Mem} {Q : Option Value → am_Mem → Prop} {v1 : Int32} {v2 : Int32} (h : am_Ci m6_isIn D [.int v1, .int 0, .int (mem 1 0)] mem (fun r_1 mem_1 => (r_1 = 0 → Q (some (.int 0)) mem_1) ∧ (¬ r_1 = 0 → am_Ci m6_isIn D [.int v2, .int 0, .int (mem_1 1 1)] mem_1 (fun r_2 mem_2 => (r_2 = 0 → Q (some (.int 0)) mem_2) ∧ (¬ r_2 = 0 → Q (some (.int 1)) mem_2))))) : am_J m1_holds (D + 1) 0 [.ref 1, .int v1, .int v2] [] mem Q := by
  refine am_iload_n (pc := 0) 1 dX1_holds_0 rfl rfl ?_
  refine am_iconst (pc := 1) (v := 0) dX1_holds_1 rfl ?_
  refine am_aload_n (pc := 2) 0 dX1_holds_2 rfl rfl ?_
  refine am_getI (pc := 3) (k := 0) cl1 sh1 (by decide) (by decide) f1_9 rfl dX1_holds_3 ?_
  refine am_callN (pc := 6) m6_isIn D 3 [.int v1, .int 0, .int (mem 1 0)] (rest := []) ok6_isIn (by omega) rfl rfl l1_47 st6_isIn (Nat.le_of_ble_eq_true rfl) dX1_holds_6 ?_
  refine am_Ci.use h (fun r_1 mem_1 h => ?_)
  show am_J m1_holds (D + 1) 9 [.ref 1, .int v1, .int v2] [.int r_1] mem_1 Q
  refine am_if_eq (pc := 9) 28 dX1_holds_9 (by decide) (fun c => ?_) (fun c => ?_)
  · replace h := h.1 c
    refine am_iconst (pc := 28) (v := 0) dX1_holds_28 rfl ?_
    exact am_zreturn rfl (by decide) dX1_holds_29 h
  · replace h := h.2 c
    refine am_iload_n (pc := 12) 2 dX1_holds_12 rfl rfl ?_
    refine am_iconst (pc := 13) (v := 0) dX1_holds_13 rfl ?_
    refine am_aload_n (pc := 14) 0 dX1_holds_14 rfl rfl ?_
    refine am_getI (pc := 15) (k := 1) cl1 sh1 (by decide) (by decide) f1_15 rfl dX1_holds_15 ?_
    refine am_callN (pc := 18) m6_isIn D 3 [.int v2, .int 0, .int (mem_1 1 1)] (rest := []) ok6_isIn (by omega) rfl rfl l1_47 st6_isIn (Nat.le_of_ble_eq_true rfl) dX1_holds_18 ?_
    refine am_Ci.use h (fun r_2 mem_2 h => ?_)
    show am_J m1_holds (D + 1) 21 [.ref 1, .int v1, .int v2] [.int r_2] mem_2 Q
    refine am_if_eq (pc := 21) 28 dX1_holds_21 (by decide) (fun c => ?_) (fun c => ?_)
    · replace h := h.1 c
      refine am_iconst (pc := 28) (v := 0) dX1_holds_28 rfl ?_
      exact am_zreturn rfl (by decide) dX1_holds_29 h
    · replace h := h.2 c
      refine am_iconst (pc := 24) (v := 1) dX1_holds_24 rfl ?_
      refine am_goto (pc := 25) 29 dX1_holds_25 (by decide) ?_
      exact am_zreturn rfl (by decide) dX1_holds_29 h
set_option maxRecDepth 100000 in
set_option maxHeartbeats 4000000 in
theorem sg1_add_0 {D : Nat} {mem : am_Mem} {Q : Option Value → am_Mem → Prop} {v1 : Int32} {v2 : Int32} {v3 : Int32} {v4 : Int32} {v5 : Int32} (h : vp_in (mem 1 4) 8 ∧ (vp_in (mem 1 4) 8 ∧ (vp_in (mem 1 4) 8 ∧ (vp_in (mem 1 4) 8 ∧ (vp_in (mem 1 4) 8 ∧ (am_J m1_add (D + 1) 51 [.ref 1, .null, .null, .null, .null, .null, .int (mem 1 4), .int 0] [] (am_set (am_set (am_set (am_set (am_set mem 2 (mem 1 4).toNatClampNeg v1) 3 (mem 1 4).toNatClampNeg v2) 4 (mem 1 4).toNatClampNeg v3) 5 (mem 1 4).toNatClampNeg v4) 6 (mem 1 4).toNatClampNeg v5) Q)))))) : am_J m1_add (D + 1) 0 [.ref 1, .int v1, .int v2, .int v3, .int v4, .int v5, .null, .null] [] mem Q := by
  refine am_aload_n (pc := 0) 0 dX1_add_0 rfl rfl ?_
  refine am_getI (pc := 1) (k := 4) cl1 sh1 (by decide) (by decide) f1_24 rfl dX1_add_1 ?_
  refine am_istoreE (pc := 4) (loc' := [.ref 1, .int v1, .int v2, .int v3, .int v4, .int v5, .int (mem 1 4), .null]) dX1_add_4 (by decide) rfl rfl ?_
  refine am_aload_n (pc := 6) 0 dX1_add_6 rfl rfl ?_
  refine am_getR (pc := 7) (k := 5) cl1 sh1 (by decide) (by decide) f1_27 rfl dX1_add_7 ?_
  refine am_iload (pc := 10) dX1_add_10 rfl ?_
  refine am_iload_n (pc := 12) 1 dX1_add_12 rfl rfl ?_
  refine am_iast (pc := 13) sh2 (by decide) h.1 dX1_add_13 ?_
  replace h := h.2
  refine am_aload_n (pc := 14) 0 dX1_add_14 rfl rfl ?_
  refine am_getR (pc := 15) (k := 6) cl1 sh1 (by decide) (by decide) f1_31 rfl dX1_add_15 ?_
  refine am_iload (pc := 18) dX1_add_18 rfl ?_
  refine am_iload_n (pc := 20) 2 dX1_add_20 rfl rfl ?_
  refine am_iast (pc := 21) sh3 (by decide) h.1 dX1_add_21 ?_
  replace h := h.2
  refine am_aload_n (pc := 22) 0 dX1_add_22 rfl rfl ?_
  refine am_getR (pc := 23) (k := 7) cl1 sh1 (by decide) (by decide) f1_34 rfl dX1_add_23 ?_
  refine am_iload (pc := 26) dX1_add_26 rfl ?_
  refine am_iload_n (pc := 28) 3 dX1_add_28 rfl rfl ?_
  refine am_iast (pc := 29) sh4 (by decide) h.1 dX1_add_29 ?_
  replace h := h.2
  refine am_aload_n (pc := 30) 0 dX1_add_30 rfl rfl ?_
  refine am_getR (pc := 31) (k := 8) cl1 sh1 (by decide) (by decide) f1_37 rfl dX1_add_31 ?_
  refine am_iload (pc := 34) dX1_add_34 rfl ?_
  refine am_iload (pc := 36) dX1_add_36 rfl ?_
  refine am_iast (pc := 38) sh5 (by decide) h.1 dX1_add_38 ?_
  replace h := h.2
  refine am_aload_n (pc := 39) 0 dX1_add_39 rfl rfl ?_
  refine am_getR (pc := 40) (k := 9) cl1 sh1 (by decide) (by decide) f1_40 rfl dX1_add_40 ?_
  refine am_iload (pc := 43) dX1_add_43 rfl ?_
  refine am_iload (pc := 45) dX1_add_45 rfl ?_
  refine am_iast (pc := 47) sh6 (by decide) h.1 dX1_add_47 ?_
  replace h := h.2
  refine am_iconst (pc := 48) (v := 0) dX1_add_48 rfl ?_
  refine am_istoreE (pc := 49) (loc' := [.ref 1, .int v1, .int v2, .int v3, .int v4, .int v5, .int (mem 1 4), .int 0]) dX1_add_49 (by decide) rfl rfl ?_
  exact am_drop [1, 2, 3, 4, 5] h
set_option maxRecDepth 100000 in
set_option maxHeartbeats 4000000 in
theorem sg1_add_51 {D : Nat} {mem : am_Mem} {Q : Option Value → am_Mem → Prop} {v6 : Int32} {v7 : Int32} (h : (4 ≤ v7 → Q (some (.int v6)) (am_set mem 1 4 ((mem 1 4) + (1 : Int32)))) ∧ (¬ 4 ≤ v7 → am_Ci m6_boxOf D [.int v6, .int v7] mem (fun r_1 mem_1 => vp_in r_1 32 ∧ (am_J m1_add (D + 1) 51 [.ref 1, .null, .null, .null, .null, .null, .int v6, .int (v7 + 1)] [] (am_set mem_1 7 r_1.toNatClampNeg (vp_nar .boolean 1)) Q)))) : am_J m1_add (D + 1) 51 [.ref 1, .null, .null, .null, .null, .null, .int v6, .int v7] [] mem Q := by
  refine am_iload (pc := 51) dX1_add_51 rfl ?_
  refine am_iconst (pc := 53) (v := 4) dX1_add_53 rfl ?_
  refine am_icmp_ge (pc := 54) 76 dX1_add_54 (by decide) (fun c => ?_) (fun c => ?_)
  · replace h := h.1 c
    refine am_aload_n (pc := 76) 0 dX1_add_76 rfl rfl ?_
    refine am_dup (pc := 77) dX1_add_77 rfl ?_
    refine am_getI (pc := 78) (k := 4) cl1 sh1 (by decide) (by decide) f1_24 rfl dX1_add_78 ?_
    refine am_iconst (pc := 81) (v := 1) dX1_add_81 rfl ?_
    refine am_iadd (pc := 82) dX1_add_82 ?_
    refine am_putI (pc := 83) (k := 4) cl1 sh1 (by decide) (by decide) f1_24 rfl rfl rfl dX1_add_83 ?_
    refine am_iload (pc := 86) dX1_add_86 rfl ?_
    exact am_ireturn rfl dX1_add_88 h
  · replace h := h.2 c
    refine am_aload_n (pc := 57) 0 dX1_add_57 rfl rfl ?_
    refine am_getR (pc := 58) (k := 10) cl1 sh1 (by decide) (by decide) f1_43 rfl dX1_add_58 ?_
    refine am_iload (pc := 61) dX1_add_61 rfl ?_
    refine am_iload (pc := 63) dX1_add_63 rfl ?_
    refine am_callN (pc := 65) m6_boxOf D 2 [.int v6, .int v7] (rest := [.ref 7]) ok6_boxOf (by omega) rfl rfl l1_51 st6_boxOf (Nat.le_of_ble_eq_true rfl) dX1_add_65 ?_
    refine am_Ci.use h (fun r_1 mem_1 h => ?_)
    show am_J m1_add (D + 1) 68 [.ref 1, .null, .null, .null, .null, .null, .int v6, .int v7] [.int r_1, .ref 7] mem_1 Q
    refine am_iconst (pc := 68) (v := 1) dX1_add_68 rfl ?_
    refine am_zast (pc := 69) sh7 (by decide) h.1 dX1_add_69 ?_
    replace h := h.2
    refine am_iincE (pc := 70) (v := 1) (loc' := [.ref 1, .null, .null, .null, .null, .null, .int v6, .int (v7 + 1)]) dX1_add_70 rfl rfl (by decide) rfl rfl ?_
    refine am_goto (pc := 73) 51 dX1_add_73 (by decide) ?_
    exact h
set_option maxRecDepth 100000 in
set_option maxHeartbeats 4000000 in
theorem sg1_everySite_0 {D : Nat} {mem : am_Mem} {Q : Option Value → am_Mem → Prop}  (h : Q (some (.int (((1 : Int32) <<< ((mem 1 4) &&& 31)) - (1 : Int32)))) mem) : am_J m1_everySite D 0 [.ref 1] [] mem Q := by
  refine am_iconst (pc := 0) (v := 1) dX1_everySite_0 rfl ?_
  refine am_aload_n (pc := 1) 0 dX1_everySite_1 rfl rfl ?_
  refine am_getI (pc := 2) (k := 4) cl1 sh1 (by decide) (by decide) f1_24 rfl dX1_everySite_2 ?_
  refine am_ishl (pc := 5) dX1_everySite_5 ?_
  refine am_iconst (pc := 6) (v := 1) dX1_everySite_6 rfl ?_
  refine am_isub (pc := 7) dX1_everySite_7 ?_
  exact am_ireturn rfl dX1_everySite_8 h
set_option maxRecDepth 100000 in
set_option maxHeartbeats 4000000 in
theorem sg1_worthOf_0 {D : Nat} {mem : am_Mem} {Q : Option Value → am_Mem → Prop} {v1 : Int32} (h : am_J m1_worthOf (D + 1) 4 [.ref 1, .int v1, .int 0, .int 0] [] mem Q) : am_J m1_worthOf (D + 1) 0 [.ref 1, .int v1, .null, .null] [] mem Q := by
  refine am_iconst (pc := 0) (v := 0) dX1_worthOf_0 rfl ?_
  refine am_istoreE_n (pc := 1) 2 (loc' := [.ref 1, .int v1, .int 0, .null]) dX1_worthOf_1 rfl (by decide) rfl rfl ?_
  refine am_iconst (pc := 2) (v := 0) dX1_worthOf_2 rfl ?_
  refine am_istoreE_n (pc := 3) 3 (loc' := [.ref 1, .int v1, .int 0, .int 0]) dX1_worthOf_3 rfl (by decide) rfl rfl ?_
  exact h
set_option maxRecDepth 100000 in
set_option maxHeartbeats 4000000 in
theorem sg1_worthOf_4 {D : Nat} {mem : am_Mem} {Q : Option Value → am_Mem → Prop} {v1 : Int32} {v2 : Int32} {v3 : Int32} (h : ((mem 1 4) ≤ v3 → Q (some (.int v2)) mem) ∧ (¬ (mem 1 4) ≤ v3 → am_Ci m6_hasBit D [.int v1, .int v3] mem (fun r_1 mem_1 => (r_1 = 0 → am_J m1_worthOf (D + 1) 29 [.ref 1, .int v1, .int v2, .int v3] [] mem_1 Q) ∧ (¬ r_1 = 0 → vp_in v3 8 ∧ (am_J m1_worthOf (D + 1) 29 [.ref 1, .int v1, .int (v2 + (mem_1 6 v3.toNatClampNeg)), .int v3] [] mem_1 Q))))) : am_J m1_worthOf (D + 1) 4 [.ref 1, .int v1, .int v2, .int v3] [] mem Q := by
  refine am_iload_n (pc := 4) 3 dX1_worthOf_4 rfl rfl ?_
  refine am_aload_n (pc := 5) 0 dX1_worthOf_5 rfl rfl ?_
  refine am_getI (pc := 6) (k := 4) cl1 sh1 (by decide) (by decide) f1_24 rfl dX1_worthOf_6 ?_
  refine am_icmp_ge (pc := 9) 35 dX1_worthOf_9 (by decide) (fun c => ?_) (fun c => ?_)
  · replace h := h.1 c
    refine am_iload_n (pc := 35) 2 dX1_worthOf_35 rfl rfl ?_
    exact am_ireturn rfl dX1_worthOf_36 h
  · replace h := h.2 c
    refine am_iload_n (pc := 12) 1 dX1_worthOf_12 rfl rfl ?_
    refine am_iload_n (pc := 13) 3 dX1_worthOf_13 rfl rfl ?_
    refine am_callN (pc := 14) m6_hasBit D 2 [.int v1, .int v3] (rest := []) ok6_hasBit (by omega) rfl rfl l1_55 st6_hasBit (Nat.le_of_ble_eq_true rfl) dX1_worthOf_14 ?_
    refine am_Ci.use h (fun r_1 mem_1 h => ?_)
    show am_J m1_worthOf (D + 1) 17 [.ref 1, .int v1, .int v2, .int v3] [.int r_1] mem_1 Q
    refine am_if_eq (pc := 17) 29 dX1_worthOf_17 (by decide) (fun c => ?_) (fun c => ?_)
    · replace h := h.1 c
      exact h
    · replace h := h.2 c
      refine am_iload_n (pc := 20) 2 dX1_worthOf_20 rfl rfl ?_
      refine am_aload_n (pc := 21) 0 dX1_worthOf_21 rfl rfl ?_
      refine am_getR (pc := 22) (k := 9) cl1 sh1 (by decide) (by decide) f1_40 rfl dX1_worthOf_22 ?_
      refine am_iload_n (pc := 25) 3 dX1_worthOf_25 rfl rfl ?_
      refine am_iald (pc := 26) sh6 (by decide) h.1 dX1_worthOf_26 ?_
      replace h := h.2
      refine am_iadd (pc := 27) dX1_worthOf_27 ?_
      refine am_istoreE_n (pc := 28) 2 (loc' := [.ref 1, .int v1, .int (v2 + (mem_1 6 v3.toNatClampNeg)), .int v3]) dX1_worthOf_28 rfl (by decide) rfl rfl ?_
      exact h
set_option maxRecDepth 100000 in
set_option maxHeartbeats 4000000 in
theorem sg1_worthOf_29 {D : Nat} {mem : am_Mem} {Q : Option Value → am_Mem → Prop} {v1 : Int32} {v2 : Int32} {v3 : Int32} (h : am_J m1_worthOf (D + 1) 4 [.ref 1, .int v1, .int v2, .int (v3 + 1)] [] mem Q) : am_J m1_worthOf (D + 1) 29 [.ref 1, .int v1, .int v2, .int v3] [] mem Q := by
  refine am_iincE (pc := 29) (v := 1) (loc' := [.ref 1, .int v1, .int v2, .int (v3 + 1)]) dX1_worthOf_29 rfl rfl (by decide) rfl rfl ?_
  refine am_goto (pc := 32) 4 dX1_worthOf_32 (by decide) ?_
  exact h
set_option maxRecDepth 100000 in
set_option maxHeartbeats 4000000 in
theorem sg1_isSetForLines_0 {D : Nat} {mem : am_Mem} {Q : Option Value → am_Mem → Prop} {v1 : Int32} (h : am_Ci m1_everySite D [.ref 1] mem (fun r_1 mem_1 => (¬ (v1 &&& (r_1 ^^^ (-1 : Int32))) = 0 → Q (some (.int 0)) mem_1) ∧ ((v1 &&& (r_1 ^^^ (-1 : Int32))) = 0 → am_Ci mJ6_bitCount_0f7a4 D [.int v1] mem_1 (fun r_2 mem_2 => (6 < r_2 → Q (some (.int 0)) mem_2) ∧ (¬ 6 < r_2 → Q (some (.int 1)) mem_2))))) : am_J m1_isSetForLines (D + 1) 0 [.ref 1, .int v1] [] mem Q := by
  refine am_iload_n (pc := 0) 1 dX1_isSetForLines_0 rfl rfl ?_
  refine am_aload_n (pc := 1) 0 dX1_isSetForLines_1 rfl rfl ?_
  refine am_callV (pc := 2) m1_everySite D 0 [] (rest := [.int v1]) ok1_everySite (by omega) rfl rfl sh1 (by decide) rfl l1_59 in1_everySite se1_everySite (Nat.le_of_ble_eq_true rfl) dX1_isSetForLines_2 ?_
  refine am_Ci.use h (fun r_1 mem_1 h => ?_)
  show am_J m1_isSetForLines (D + 1) 5 [.ref 1, .int v1] [.int r_1, .int v1] mem_1 Q
  refine am_iconst (pc := 5) (v := -1) dX1_isSetForLines_5 rfl ?_
  refine am_ixor (pc := 6) dX1_isSetForLines_6 ?_
  refine am_iand (pc := 7) dX1_isSetForLines_7 ?_
  refine am_if_ne (pc := 8) 24 dX1_isSetForLines_8 (by decide) (fun c => ?_) (fun c => ?_)
  · replace h := h.1 c
    refine am_iconst (pc := 24) (v := 0) dX1_isSetForLines_24 rfl ?_
    exact am_zreturn rfl (by decide) dX1_isSetForLines_25 h
  · replace h := h.2 c
    refine am_iload_n (pc := 11) 1 dX1_isSetForLines_11 rfl rfl ?_
    refine am_callS (pc := 12) mJ6_bitCount_0f7a4 D 1 [.int v1] (rest := []) okJ6_bitCount_0f7a4 (by omega) rfl rfl l1_63 stJ6_bitCount_0f7a4 (Nat.le_of_ble_eq_true rfl) dX1_isSetForLines_12 ?_
    refine am_Ci.use h (fun r_2 mem_2 h => ?_)
    show am_J m1_isSetForLines (D + 1) 15 [.ref 1, .int v1] [.int r_2] mem_2 Q
    refine am_bipush (pc := 15) (v := 6) dX1_isSetForLines_15 rfl ?_
    refine am_icmp_gt (pc := 17) 24 dX1_isSetForLines_17 (by decide) (fun c => ?_) (fun c => ?_)
    · replace h := h.1 c
      refine am_iconst (pc := 24) (v := 0) dX1_isSetForLines_24 rfl ?_
      exact am_zreturn rfl (by decide) dX1_isSetForLines_25 h
    · replace h := h.2 c
      refine am_iconst (pc := 20) (v := 1) dX1_isSetForLines_20 rfl ?_
      refine am_goto (pc := 21) 25 dX1_isSetForLines_21 (by decide) ?_
      exact am_zreturn rfl (by decide) dX1_isSetForLines_25 h
set_option maxRecDepth 100000 in
set_option maxHeartbeats 4000000 in
theorem sg2_deal_0 {D : Nat} {mem : am_Mem} {Q : Option Value → am_Mem → Prop} {v1 : Int32} (h : am_J m2_deal (D + 1) 7 [.ref 26, .int v1, .int 0] [] (am_set mem 26 1 0) Q) : am_J m2_deal (D + 1) 0 [.ref 26, .int v1, .null] [] mem Q := by
  refine am_aload_n (pc := 0) 0 dX2_deal_0 rfl rfl ?_
  refine am_iconst (pc := 1) (v := 0) dX2_deal_1 rfl ?_
  refine am_putI (pc := 2) (k := 1) cl2 sh26 (by decide) (by decide) f2_25 rfl rfl rfl dX2_deal_2 ?_
  refine am_iconst (pc := 5) (v := 0) dX2_deal_5 rfl ?_
  refine am_istoreE_n (pc := 6) 2 (loc' := [.ref 26, .int v1, .int 0]) dX2_deal_6 rfl (by decide) rfl rfl ?_
  exact h
set_option maxRecDepth 100000 in
set_option maxHeartbeats 4000000 in
theorem sg2_deal_7 {D : Nat} {mem : am_Mem} {Q : Option Value → am_Mem → Prop} {v1 : Int32} {v2 : Int32} (h : ((mem 1 4) ≤ v2 → am_J m2_deal (D + 1) 61 [.ref 26, .null, .null] [] mem Q) ∧ (¬ (mem 1 4) ≤ v2 → (6 ≤ (mem 26 1) → am_J m2_deal (D + 1) 61 [.ref 26, .null, .null] [] mem Q) ∧ (¬ 6 ≤ (mem 26 1) → am_Ci m6_hasBit D [.int v1, .int v2] mem (fun r_1 mem_1 => (r_1 = 0 → am_J m2_deal (D + 1) 55 [.ref 26, .int v1, .int v2] [] mem_1 Q) ∧ (¬ r_1 = 0 → vp_in (mem_1 26 1) 6 ∧ (am_J m2_deal (D + 1) 55 [.ref 26, .int v1, .int v2] [] (am_set (am_set mem_1 27 (mem_1 26 1).toNatClampNeg v2) 26 1 (((am_set mem_1 27 (mem_1 26 1).toNatClampNeg v2) 26 1) + (1 : Int32))) Q)))))) : am_J m2_deal (D + 1) 7 [.ref 26, .int v1, .int v2] [] mem Q := by
  refine am_iload_n (pc := 7) 2 dX2_deal_7 rfl rfl ?_
  refine am_aload_n (pc := 8) 0 dX2_deal_8 rfl rfl ?_
  refine am_getR (pc := 9) (k := 0) cl2 sh26 (by decide) (by decide) f2_21 rfl dX2_deal_9 ?_
  refine am_getI (pc := 12) (k := 4) cl1 sh1 (by decide) (by decide) f2_29 rfl dX2_deal_12 ?_
  refine am_icmp_ge (pc := 15) 61 dX2_deal_15 (by decide) (fun c => ?_) (fun c => ?_)
  · replace h := h.1 c
    exact am_drop [1, 2] h
  · replace h := h.2 c
    refine am_aload_n (pc := 18) 0 dX2_deal_18 rfl rfl ?_
    refine am_getI (pc := 19) (k := 1) cl2 sh26 (by decide) (by decide) f2_25 rfl dX2_deal_19 ?_
    refine am_bipush (pc := 22) (v := 6) dX2_deal_22 rfl ?_
    refine am_icmp_ge (pc := 24) 61 dX2_deal_24 (by decide) (fun c => ?_) (fun c => ?_)
    · replace h := h.1 c
      exact am_drop [1, 2] h
    · replace h := h.2 c
      refine am_iload_n (pc := 27) 1 dX2_deal_27 rfl rfl ?_
      refine am_iload_n (pc := 28) 2 dX2_deal_28 rfl rfl ?_
      refine am_callN (pc := 29) m6_hasBit D 2 [.int v1, .int v2] (rest := []) ok6_hasBit (by omega) rfl rfl l2_34 st6_hasBit (Nat.le_of_ble_eq_true rfl) dX2_deal_29 ?_
      refine am_Ci.use h (fun r_1 mem_1 h => ?_)
      show am_J m2_deal (D + 1) 32 [.ref 26, .int v1, .int v2] [.int r_1] mem_1 Q
      refine am_if_eq (pc := 32) 55 dX2_deal_32 (by decide) (fun c => ?_) (fun c => ?_)
      · replace h := h.1 c
        exact h
      · replace h := h.2 c
        refine am_aload_n (pc := 35) 0 dX2_deal_35 rfl rfl ?_
        refine am_getR (pc := 36) (k := 2) cl2 sh26 (by decide) (by decide) f2_9 rfl dX2_deal_36 ?_
        refine am_aload_n (pc := 39) 0 dX2_deal_39 rfl rfl ?_
        refine am_getI (pc := 40) (k := 1) cl2 sh26 (by decide) (by decide) f2_25 rfl dX2_deal_40 ?_
        refine am_iload_n (pc := 43) 2 dX2_deal_43 rfl rfl ?_
        refine am_iast (pc := 44) sh27 (by decide) h.1 dX2_deal_44 ?_
        replace h := h.2
        refine am_aload_n (pc := 45) 0 dX2_deal_45 rfl rfl ?_
        refine am_dup (pc := 46) dX2_deal_46 rfl ?_
        refine am_getI (pc := 47) (k := 1) cl2 sh26 (by decide) (by decide) f2_25 rfl dX2_deal_47 ?_
        refine am_iconst (pc := 50) (v := 1) dX2_deal_50 rfl ?_
        refine am_iadd (pc := 51) dX2_deal_51 ?_
        refine am_putI (pc := 52) (k := 1) cl2 sh26 (by decide) (by decide) f2_25 rfl rfl rfl dX2_deal_52 ?_
        exact h
set_option maxRecDepth 100000 in
set_option maxHeartbeats 4000000 in
theorem sg2_deal_55 {D : Nat} {mem : am_Mem} {Q : Option Value → am_Mem → Prop} {v1 : Int32} {v2 : Int32} (h : am_J m2_deal (D + 1) 7 [.ref 26, .int v1, .int (v2 + 1)] [] mem Q) : am_J m2_deal (D + 1) 55 [.ref 26, .int v1, .int v2] [] mem Q := by
  refine am_iincE (pc := 55) (v := 1) (loc' := [.ref 26, .int v1, .int (v2 + 1)]) dX2_deal_55 rfl rfl (by decide) rfl rfl ?_
  refine am_goto (pc := 58) 7 dX2_deal_58 (by decide) ?_
  exact h
set_option maxRecDepth 100000 in
set_option maxHeartbeats 4000000 in
theorem sg2_deal_61 {D : Nat} {mem : am_Mem} {Q : Option Value → am_Mem → Prop}  (h : am_Cv m2_seekDeal D [.ref 26, .int 0, .int 0, .int 0, .int 0] (am_set (am_set mem 26 5 1000000) 26 6 1000000) (fun mem_1 => Q none mem_1)) : am_J m2_deal (D + 1) 61 [.ref 26, .null, .null] [] mem Q := by
  refine am_aload_n (pc := 61) 0 dX2_deal_61 rfl rfl ?_
  refine am_ldc (pc := 62) k2_38 dX2_deal_62 ?_
  refine am_putI (pc := 64) (k := 5) cl2 sh26 (by decide) (by decide) f2_39 rfl rfl rfl dX2_deal_64 ?_
  refine am_aload_n (pc := 67) 0 dX2_deal_67 rfl rfl ?_
  refine am_ldc (pc := 68) k2_38 dX2_deal_68 ?_
  refine am_putI (pc := 70) (k := 6) cl2 sh26 (by decide) (by decide) f2_42 rfl rfl rfl dX2_deal_70 ?_
  refine am_aload_n (pc := 73) 0 dX2_deal_73 rfl rfl ?_
  refine am_iconst (pc := 74) (v := 0) dX2_deal_74 rfl ?_
  refine am_iconst (pc := 75) (v := 0) dX2_deal_75 rfl ?_
  refine am_iconst (pc := 76) (v := 0) dX2_deal_76 rfl ?_
  refine am_iconst (pc := 77) (v := 0) dX2_deal_77 rfl ?_
  refine am_callS (pc := 78) m2_seekDeal D 5 [.ref 26, .int 0, .int 0, .int 0, .int 0] (rest := []) ok2_seekDeal (by omega) rfl rfl l2_45 st2_seekDeal (Nat.le_of_ble_eq_true rfl) dX2_deal_78 ?_
  refine am_Cv.use h (fun mem_1 h => ?_)
  show am_J m2_deal (D + 1) 81 [.ref 26, .null, .null] [] mem_1 Q
  exact am_return rfl dX2_deal_81 h
set_option maxRecDepth 100000 in
set_option maxHeartbeats 4000000 in
theorem sg2_seekDeal_0 {D : Nat} {mem : am_Mem} {Q : Option Value → am_Mem → Prop} {v1 : Int32} {v2 : Int32} {v3 : Int32} {v4 : Int32} (h : ((mem 26 5) < v3 → Q none mem) ∧ (¬ (mem 26 5) < v3 → (¬ v3 = (mem 26 5) → am_J m2_seekDeal (D + 1) 26 [.ref 26, .int v1, .int v2, .int v3, .int v4, .null] [] mem Q) ∧ (v3 = (mem 26 5) → (v4 < (mem 26 6) → am_J m2_seekDeal (D + 1) 26 [.ref 26, .int v1, .int v2, .int v3, .int v4, .null] [] mem Q) ∧ (¬ v4 < (mem 26 6) → Q none mem)))) : am_J m2_seekDeal (D + 1) 0 [.ref 26, .int v1, .int v2, .int v3, .int v4, .null] [] mem Q := by
  refine am_iload_n (pc := 0) 3 dX2_seekDeal_0 rfl rfl ?_
  refine am_aload_n (pc := 1) 0 dX2_seekDeal_1 rfl rfl ?_
  refine am_getI (pc := 2) (k := 5) cl2 sh26 (by decide) (by decide) f2_39 rfl dX2_seekDeal_2 ?_
  refine am_icmp_gt (pc := 5) 25 dX2_seekDeal_5 (by decide) (fun c => ?_) (fun c => ?_)
  · replace h := h.1 c
    exact am_return rfl dX2_seekDeal_25 h
  · replace h := h.2 c
    refine am_iload_n (pc := 8) 3 dX2_seekDeal_8 rfl rfl ?_
    refine am_aload_n (pc := 9) 0 dX2_seekDeal_9 rfl rfl ?_
    refine am_getI (pc := 10) (k := 5) cl2 sh26 (by decide) (by decide) f2_39 rfl dX2_seekDeal_10 ?_
    refine am_icmp_ne (pc := 13) 26 dX2_seekDeal_13 (by decide) (fun c => ?_) (fun c => ?_)
    · replace h := h.1 c
      exact h
    · replace h := h.2 c
      refine am_iload (pc := 16) dX2_seekDeal_16 rfl ?_
      refine am_aload_n (pc := 18) 0 dX2_seekDeal_18 rfl rfl ?_
      refine am_getI (pc := 19) (k := 6) cl2 sh26 (by decide) (by decide) f2_42 rfl dX2_seekDeal_19 ?_
      refine am_icmp_lt (pc := 22) 26 dX2_seekDeal_22 (by decide) (fun c => ?_) (fun c => ?_)
      · replace h := h.1 c
        exact h
      · replace h := h.2 c
        exact am_return rfl dX2_seekDeal_25 h
set_option maxRecDepth 100000 in
set_option maxHeartbeats 4000000 in
theorem sg2_seekDeal_26 {D : Nat} {mem : am_Mem} {Q : Option Value → am_Mem → Prop} {v1 : Int32} {v2 : Int32} {v3 : Int32} {v4 : Int32} (h : (v1 < (mem 26 1) → am_J m2_seekDeal (D + 1) 64 [.ref 26, .int v1, .int v2, .int v3, .int v4, .int 0] [] mem Q) ∧ (¬ v1 < (mem 26 1) → Q none (am_put (am_set (am_set mem 26 5 v3) 26 6 v4) 29 (va_cpy ((am_set (am_set mem 26 5 v3) 26 6 v4) 28) ((am_set (am_set mem 26 5 v3) 26 6 v4) 29) (0 : Int32).toNatClampNeg (0 : Int32).toNatClampNeg (6 : Int32).toNatClampNeg)))) : am_J m2_seekDeal (D + 1) 26 [.ref 26, .int v1, .int v2, .int v3, .int v4, .null] [] mem Q := by
  refine am_iload_n (pc := 26) 1 dX2_seekDeal_26 rfl rfl ?_
  refine am_aload_n (pc := 27) 0 dX2_seekDeal_27 rfl rfl ?_
  refine am_getI (pc := 28) (k := 1) cl2 sh26 (by decide) (by decide) f2_25 rfl dX2_seekDeal_28 ?_
  refine am_icmp_lt (pc := 31) 61 dX2_seekDeal_31 (by decide) (fun c => ?_) (fun c => ?_)
  · replace h := h.1 c
    refine am_iconst (pc := 61) (v := 0) dX2_seekDeal_61 rfl ?_
    refine am_istoreE (pc := 62) (loc' := [.ref 26, .int v1, .int v2, .int v3, .int v4, .int 0]) dX2_seekDeal_62 (by decide) rfl rfl ?_
    exact h
  · replace h := h.2 c
    refine am_aload_n (pc := 34) 0 dX2_seekDeal_34 rfl rfl ?_
    refine am_iload_n (pc := 35) 3 dX2_seekDeal_35 rfl rfl ?_
    refine am_putI (pc := 36) (k := 5) cl2 sh26 (by decide) (by decide) f2_39 rfl rfl rfl dX2_seekDeal_36 ?_
    refine am_aload_n (pc := 39) 0 dX2_seekDeal_39 rfl rfl ?_
    refine am_iload (pc := 40) dX2_seekDeal_40 rfl ?_
    refine am_putI (pc := 42) (k := 6) cl2 sh26 (by decide) (by decide) f2_42 rfl rfl rfl dX2_seekDeal_42 ?_
    refine am_aload_n (pc := 45) 0 dX2_seekDeal_45 rfl rfl ?_
    refine am_getR (pc := 46) (k := 3) cl2 sh26 (by decide) (by decide) f2_15 rfl dX2_seekDeal_46 ?_
    refine am_iconst (pc := 49) (v := 0) dX2_seekDeal_49 rfl ?_
    refine am_aload_n (pc := 50) 0 dX2_seekDeal_50 rfl rfl ?_
    refine am_getR (pc := 51) (k := 4) cl2 sh26 (by decide) (by decide) f2_18 rfl dX2_seekDeal_51 ?_
    refine am_iconst (pc := 54) (v := 0) dX2_seekDeal_54 rfl ?_
    refine am_bipush (pc := 55) (v := 6) dX2_seekDeal_55 rfl ?_
    refine am_copy (pc := 57) l2_49 (by omega) (Nat.le_of_ble_eq_true rfl) sh28 sh29 (by decide) (by decide) (by decide) (by decide) (by decide) (by decide) (by decide) dX2_seekDeal_57 ?_
    exact am_return rfl dX2_seekDeal_60 h
set_option maxRecDepth 100000 in
set_option maxHeartbeats 4000000 in
theorem sg2_seekDeal_64 {D : Nat} {mem : am_Mem} {Q : Option Value → am_Mem → Prop} {v1 : Int32} {v2 : Int32} {v3 : Int32} {v4 : Int32} {v5 : Int32} (h : ((mem 26 1) ≤ v5 → Q none mem) ∧ (¬ (mem 26 1) ≤ v5 → am_Ci m6_hasBit D [.int v2, .int v5] mem (fun r_1 mem_1 => (¬ r_1 = 0 → am_J m2_seekDeal (D + 1) 118 [.ref 26, .int v1, .int v2, .int v3, .int v4, .int v5] [] mem_1 Q) ∧ (r_1 = 0 → vp_in v1 6 ∧ (am_Ci m2_crossedBefore D [.ref 26, .int v1] (am_set mem_1 28 v1.toNatClampNeg v5) (fun r_2 mem_2 => am_Ci m2_lengthOf D [.ref 26, .int v1] mem_2 (fun r_3 mem_3 => am_Cv m2_seekDeal D [.ref 26, .int (v1 + (1 : Int32)), .int (v2 ||| ((1 : Int32) <<< (v5 &&& 31))), .int (v3 + r_2), .int (v4 + r_3)] mem_3 (fun mem_4 => am_J m2_seekDeal (D + 1) 118 [.ref 26, .int v1, .int v2, .int v3, .int v4, .int v5] [] mem_4 Q)))))))) : am_J m2_seekDeal (D + 1) 64 [.ref 26, .int v1, .int v2, .int v3, .int v4, .int v5] [] mem Q := by
  refine am_iload (pc := 64) dX2_seekDeal_64 rfl ?_
  refine am_aload_n (pc := 66) 0 dX2_seekDeal_66 rfl rfl ?_
  refine am_getI (pc := 67) (k := 1) cl2 sh26 (by decide) (by decide) f2_25 rfl dX2_seekDeal_67 ?_
  refine am_icmp_ge (pc := 70) 124 dX2_seekDeal_70 (by decide) (fun c => ?_) (fun c => ?_)
  · replace h := h.1 c
    exact am_return rfl dX2_seekDeal_124 h
  · replace h := h.2 c
    refine am_iload_n (pc := 73) 2 dX2_seekDeal_73 rfl rfl ?_
    refine am_iload (pc := 74) dX2_seekDeal_74 rfl ?_
    refine am_callN (pc := 76) m6_hasBit D 2 [.int v2, .int v5] (rest := []) ok6_hasBit (by omega) rfl rfl l2_34 st6_hasBit (Nat.le_of_ble_eq_true rfl) dX2_seekDeal_76 ?_
    refine am_Ci.use h (fun r_1 mem_1 h => ?_)
    show am_J m2_seekDeal (D + 1) 79 [.ref 26, .int v1, .int v2, .int v3, .int v4, .int v5] [.int r_1] mem_1 Q
    refine am_if_ne (pc := 79) 118 dX2_seekDeal_79 (by decide) (fun c => ?_) (fun c => ?_)
    · replace h := h.1 c
      exact h
    · replace h := h.2 c
      refine am_aload_n (pc := 82) 0 dX2_seekDeal_82 rfl rfl ?_
      refine am_getR (pc := 83) (k := 3) cl2 sh26 (by decide) (by decide) f2_15 rfl dX2_seekDeal_83 ?_
      refine am_iload_n (pc := 86) 1 dX2_seekDeal_86 rfl rfl ?_
      refine am_iload (pc := 87) dX2_seekDeal_87 rfl ?_
      refine am_iast (pc := 89) sh28 (by decide) h.1 dX2_seekDeal_89 ?_
      replace h := h.2
      refine am_aload_n (pc := 90) 0 dX2_seekDeal_90 rfl rfl ?_
      refine am_iload_n (pc := 91) 1 dX2_seekDeal_91 rfl rfl ?_
      refine am_iconst (pc := 92) (v := 1) dX2_seekDeal_92 rfl ?_
      refine am_iadd (pc := 93) dX2_seekDeal_93 ?_
      refine am_iload_n (pc := 94) 2 dX2_seekDeal_94 rfl rfl ?_
      refine am_iconst (pc := 95) (v := 1) dX2_seekDeal_95 rfl ?_
      refine am_iload (pc := 96) dX2_seekDeal_96 rfl ?_
      refine am_ishl (pc := 98) dX2_seekDeal_98 ?_
      refine am_ior (pc := 99) dX2_seekDeal_99 ?_
      refine am_iload_n (pc := 100) 3 dX2_seekDeal_100 rfl rfl ?_
      refine am_aload_n (pc := 101) 0 dX2_seekDeal_101 rfl rfl ?_
      refine am_iload_n (pc := 102) 1 dX2_seekDeal_102 rfl rfl ?_
      refine am_callV (pc := 103) m2_crossedBefore D 1 [.int v1] (rest := [.int v3, .int (v2 ||| ((1 : Int32) <<< (v5 &&& 31))), .int (v1 + (1 : Int32)), .ref 26]) ok2_crossedBefore (by omega) rfl rfl sh26 (by decide) rfl l2_55 in2_crossedBefore se2_crossedBefore (Nat.le_of_ble_eq_true rfl) dX2_seekDeal_103 ?_
      refine am_Ci.use h (fun r_2 mem_2 h => ?_)
      show am_J m2_seekDeal (D + 1) 106 [.ref 26, .int v1, .int v2, .int v3, .int v4, .int v5] [.int r_2, .int v3, .int (v2 ||| ((1 : Int32) <<< (v5 &&& 31))), .int (v1 + (1 : Int32)), .ref 26] mem_2 Q
      refine am_iadd (pc := 106) dX2_seekDeal_106 ?_
      refine am_iload (pc := 107) dX2_seekDeal_107 rfl ?_
      refine am_aload_n (pc := 109) 0 dX2_seekDeal_109 rfl rfl ?_
      refine am_iload_n (pc := 110) 1 dX2_seekDeal_110 rfl rfl ?_
      refine am_callV (pc := 111) m2_lengthOf D 1 [.int v1] (rest := [.int v4, .int (v3 + r_2), .int (v2 ||| ((1 : Int32) <<< (v5 &&& 31))), .int (v1 + (1 : Int32)), .ref 26]) ok2_lengthOf (by omega) rfl rfl sh26 (by decide) rfl l2_59 in2_lengthOf se2_lengthOf (Nat.le_of_ble_eq_true rfl) dX2_seekDeal_111 ?_
      refine am_Ci.use h (fun r_3 mem_3 h => ?_)
      show am_J m2_seekDeal (D + 1) 114 [.ref 26, .int v1, .int v2, .int v3, .int v4, .int v5] [.int r_3, .int v4, .int (v3 + r_2), .int (v2 ||| ((1 : Int32) <<< (v5 &&& 31))), .int (v1 + (1 : Int32)), .ref 26] mem_3 Q
      refine am_iadd (pc := 114) dX2_seekDeal_114 ?_
      refine am_callS (pc := 115) m2_seekDeal D 5 [.ref 26, .int (v1 + (1 : Int32)), .int (v2 ||| ((1 : Int32) <<< (v5 &&& 31))), .int (v3 + r_2), .int (v4 + r_3)] (rest := []) ok2_seekDeal (by omega) rfl rfl l2_45 st2_seekDeal (Nat.le_of_ble_eq_true rfl) dX2_seekDeal_115 ?_
      refine am_Cv.use h (fun mem_4 h => ?_)
      show am_J m2_seekDeal (D + 1) 118 [.ref 26, .int v1, .int v2, .int v3, .int v4, .int v5] [] mem_4 Q
      exact h
set_option maxRecDepth 100000 in
set_option maxHeartbeats 4000000 in
theorem sg2_seekDeal_118 {D : Nat} {mem : am_Mem} {Q : Option Value → am_Mem → Prop} {v1 : Int32} {v2 : Int32} {v3 : Int32} {v4 : Int32} {v5 : Int32} (h : am_J m2_seekDeal (D + 1) 64 [.ref 26, .int v1, .int v2, .int v3, .int v4, .int (v5 + 1)] [] mem Q) : am_J m2_seekDeal (D + 1) 118 [.ref 26, .int v1, .int v2, .int v3, .int v4, .int v5] [] mem Q := by
  refine am_iincE (pc := 118) (v := 1) (loc' := [.ref 26, .int v1, .int v2, .int v3, .int v4, .int (v5 + 1)]) dX2_seekDeal_118 rfl rfl (by decide) rfl rfl ?_
  refine am_goto (pc := 121) 64 dX2_seekDeal_121 (by decide) ?_
  exact h
set_option maxRecDepth 100000 in
set_option maxHeartbeats 4000000 in
theorem sg2_crossedBefore_0 {D : Nat} {mem : am_Mem} {Q : Option Value → am_Mem → Prop} {v1 : Int32} (h : am_J m2_crossedBefore (D + 1) 4 [.ref 26, .int v1, .int 0, .int 0] [] mem Q) : am_J m2_crossedBefore (D + 1) 0 [.ref 26, .int v1, .null, .null] [] mem Q := by
  refine am_iconst (pc := 0) (v := 0) dX2_crossedBefore_0 rfl ?_
  refine am_istoreE_n (pc := 1) 2 (loc' := [.ref 26, .int v1, .int 0, .null]) dX2_crossedBefore_1 rfl (by decide) rfl rfl ?_
  refine am_iconst (pc := 2) (v := 0) dX2_crossedBefore_2 rfl ?_
  refine am_istoreE_n (pc := 3) 3 (loc' := [.ref 26, .int v1, .int 0, .int 0]) dX2_crossedBefore_3 rfl (by decide) rfl rfl ?_
  exact h
set_option maxRecDepth 100000 in
set_option maxHeartbeats 4000000 in
theorem sg2_crossedBefore_4 {D : Nat} {mem : am_Mem} {Q : Option Value → am_Mem → Prop} {v1 : Int32} {v2 : Int32} {v3 : Int32} (h : (v1 ≤ v3 → Q (some (.int v2)) mem) ∧ (¬ v1 ≤ v3 → vp_in v1 6 ∧ (am_Ci m2_heightOf D [.ref 26, .int v1] mem (fun r_1 mem_1 => vp_in v3 6 ∧ (am_Ci m2_heightOf D [.ref 26, .int v3] mem_1 (fun r_2 mem_2 => am_Ci m2_doCross D [.ref 26, .int (mem 27 v1.toNatClampNeg), .int r_1, .int (mem_1 27 v3.toNatClampNeg), .int r_2] mem_2 (fun r_3 mem_3 => am_Ci m6_toInt D [.int r_3] mem_3 (fun r_4 mem_4 => am_J m2_crossedBefore (D + 1) 4 [.ref 26, .int v1, .int (v2 + r_4), .int (v3 + 1)] [] mem_4 Q)))))))) : am_J m2_crossedBefore (D + 1) 4 [.ref 26, .int v1, .int v2, .int v3] [] mem Q := by
  refine am_iload_n (pc := 4) 3 dX2_crossedBefore_4 rfl rfl ?_
  refine am_iload_n (pc := 5) 1 dX2_crossedBefore_5 rfl rfl ?_
  refine am_icmp_ge (pc := 6) 47 dX2_crossedBefore_6 (by decide) (fun c => ?_) (fun c => ?_)
  · replace h := h.1 c
    refine am_iload_n (pc := 47) 2 dX2_crossedBefore_47 rfl rfl ?_
    exact am_ireturn rfl dX2_crossedBefore_48 h
  · replace h := h.2 c
    refine am_iload_n (pc := 9) 2 dX2_crossedBefore_9 rfl rfl ?_
    refine am_aload_n (pc := 10) 0 dX2_crossedBefore_10 rfl rfl ?_
    refine am_aload_n (pc := 11) 0 dX2_crossedBefore_11 rfl rfl ?_
    refine am_getR (pc := 12) (k := 2) cl2 sh26 (by decide) (by decide) f2_9 rfl dX2_crossedBefore_12 ?_
    refine am_iload_n (pc := 15) 1 dX2_crossedBefore_15 rfl rfl ?_
    refine am_iald (pc := 16) sh27 (by decide) h.1 dX2_crossedBefore_16 ?_
    replace h := h.2
    refine am_aload_n (pc := 17) 0 dX2_crossedBefore_17 rfl rfl ?_
    refine am_iload_n (pc := 18) 1 dX2_crossedBefore_18 rfl rfl ?_
    refine am_callV (pc := 19) m2_heightOf D 1 [.int v1] (rest := [.int (mem 27 v1.toNatClampNeg), .ref 26, .int v2]) ok2_heightOf (by omega) rfl rfl sh26 (by decide) rfl l2_62 in2_heightOf se2_heightOf (Nat.le_of_ble_eq_true rfl) dX2_crossedBefore_19 ?_
    refine am_Ci.use h (fun r_1 mem_1 h => ?_)
    show am_J m2_crossedBefore (D + 1) 22 [.ref 26, .int v1, .int v2, .int v3] [.int r_1, .int (mem 27 v1.toNatClampNeg), .ref 26, .int v2] mem_1 Q
    refine am_aload_n (pc := 22) 0 dX2_crossedBefore_22 rfl rfl ?_
    refine am_getR (pc := 23) (k := 2) cl2 sh26 (by decide) (by decide) f2_9 rfl dX2_crossedBefore_23 ?_
    refine am_iload_n (pc := 26) 3 dX2_crossedBefore_26 rfl rfl ?_
    refine am_iald (pc := 27) sh27 (by decide) h.1 dX2_crossedBefore_27 ?_
    replace h := h.2
    refine am_aload_n (pc := 28) 0 dX2_crossedBefore_28 rfl rfl ?_
    refine am_iload_n (pc := 29) 3 dX2_crossedBefore_29 rfl rfl ?_
    refine am_callV (pc := 30) m2_heightOf D 1 [.int v3] (rest := [.int (mem_1 27 v3.toNatClampNeg), .int r_1, .int (mem 27 v1.toNatClampNeg), .ref 26, .int v2]) ok2_heightOf (by omega) rfl rfl sh26 (by decide) rfl l2_62 in2_heightOf se2_heightOf (Nat.le_of_ble_eq_true rfl) dX2_crossedBefore_30 ?_
    refine am_Ci.use h (fun r_2 mem_2 h => ?_)
    show am_J m2_crossedBefore (D + 1) 33 [.ref 26, .int v1, .int v2, .int v3] [.int r_2, .int (mem_1 27 v3.toNatClampNeg), .int r_1, .int (mem 27 v1.toNatClampNeg), .ref 26, .int v2] mem_2 Q
    refine am_callV (pc := 33) m2_doCross D 4 [.int (mem 27 v1.toNatClampNeg), .int r_1, .int (mem_1 27 v3.toNatClampNeg), .int r_2] (rest := [.int v2]) ok2_doCross (by omega) rfl rfl sh26 (by decide) rfl l2_65 in2_doCross se2_doCross (Nat.le_of_ble_eq_true rfl) dX2_crossedBefore_33 ?_
    refine am_Ci.use h (fun r_3 mem_3 h => ?_)
    show am_J m2_crossedBefore (D + 1) 36 [.ref 26, .int v1, .int v2, .int v3] [.int r_3, .int v2] mem_3 Q
    refine am_callN (pc := 36) m6_toInt D 1 [.int r_3] (rest := [.int v2]) ok6_toInt (by omega) rfl rfl l2_69 st6_toInt (Nat.le_of_ble_eq_true rfl) dX2_crossedBefore_36 ?_
    refine am_Ci.use h (fun r_4 mem_4 h => ?_)
    show am_J m2_crossedBefore (D + 1) 39 [.ref 26, .int v1, .int v2, .int v3] [.int r_4, .int v2] mem_4 Q
    refine am_iadd (pc := 39) dX2_crossedBefore_39 ?_
    refine am_istoreE_n (pc := 40) 2 (loc' := [.ref 26, .int v1, .int (v2 + r_4), .int v3]) dX2_crossedBefore_40 rfl (by decide) rfl rfl ?_
    refine am_iincE (pc := 41) (v := 1) (loc' := [.ref 26, .int v1, .int (v2 + r_4), .int (v3 + 1)]) dX2_crossedBefore_41 rfl rfl (by decide) rfl rfl ?_
    refine am_goto (pc := 44) 4 dX2_crossedBefore_44 (by decide) ?_
    exact h
set_option maxRecDepth 100000 in
set_option maxHeartbeats 4000000 in
theorem sg2_heightOf_0 {D : Nat} {mem : am_Mem} {Q : Option Value → am_Mem → Prop} {v1 : Int32} (h : ((mem 26 1) ≤ 0 → Q (some (.int 0)) mem) ∧ (¬ (mem 26 1) ≤ 0 → vp_in v1 6 ∧ (¬ (mem 26 1) = 0 ∧ (Q (some (.int (((mem 28 v1.toNatClampNeg) * (mem 1 1)) / (mem 26 1)))) mem)))) : am_J m2_heightOf D 0 [.ref 26, .int v1] [] mem Q := by
  refine am_aload_n (pc := 0) 0 dX2_heightOf_0 rfl rfl ?_
  refine am_getI (pc := 1) (k := 1) cl2 sh26 (by decide) (by decide) f2_25 rfl dX2_heightOf_1 ?_
  refine am_if_le (pc := 4) 29 dX2_heightOf_4 (by decide) (fun c => ?_) (fun c => ?_)
  · replace h := h.1 c
    refine am_iconst (pc := 29) (v := 0) dX2_heightOf_29 rfl ?_
    exact am_ireturn rfl dX2_heightOf_30 h
  · replace h := h.2 c
    refine am_aload_n (pc := 7) 0 dX2_heightOf_7 rfl rfl ?_
    refine am_getR (pc := 8) (k := 3) cl2 sh26 (by decide) (by decide) f2_15 rfl dX2_heightOf_8 ?_
    refine am_iload_n (pc := 11) 1 dX2_heightOf_11 rfl rfl ?_
    refine am_iald (pc := 12) sh28 (by decide) h.1 dX2_heightOf_12 ?_
    replace h := h.2
    refine am_aload_n (pc := 13) 0 dX2_heightOf_13 rfl rfl ?_
    refine am_getR (pc := 14) (k := 0) cl2 sh26 (by decide) (by decide) f2_21 rfl dX2_heightOf_14 ?_
    refine am_getI (pc := 17) (k := 1) cl1 sh1 (by decide) (by decide) f2_73 rfl dX2_heightOf_17 ?_
    refine am_imul (pc := 20) dX2_heightOf_20 ?_
    refine am_aload_n (pc := 21) 0 dX2_heightOf_21 rfl rfl ?_
    refine am_getI (pc := 22) (k := 1) cl2 sh26 (by decide) (by decide) f2_25 rfl dX2_heightOf_22 ?_
    refine am_idiv (pc := 25) dX2_heightOf_25 h.1 ?_
    replace h := h.2
    refine am_goto (pc := 26) 30 dX2_heightOf_26 (by decide) ?_
    exact am_ireturn rfl dX2_heightOf_30 h
set_option maxRecDepth 100000 in
set_option maxHeartbeats 4000000 in
theorem sg2_lengthOf_0 {D : Nat} {mem : am_Mem} {Q : Option Value → am_Mem → Prop} {v1 : Int32} (h : vp_in v1 6 ∧ (am_Ci m2_heightOf D [.ref 26, .int v1] mem (fun r_1 mem_1 => vp_in (mem 27 v1.toNatClampNeg) 8 ∧ (vp_in (mem 27 v1.toNatClampNeg) 8 ∧ (Q (some (.int (((if 0 ≤ (r_1 - (mem_1 3 (mem 27 v1.toNatClampNeg).toNatClampNeg)) then (r_1 - (mem_1 3 (mem 27 v1.toNatClampNeg).toNatClampNeg)) else 0 - (r_1 - (mem_1 3 (mem 27 v1.toNatClampNeg).toNatClampNeg))) + (mem_1 1 0)) - (mem_1 2 (mem 27 v1.toNatClampNeg).toNatClampNeg)))) mem_1))))) : am_J m2_lengthOf (D + 1) 0 [.ref 26, .int v1, .null] [] mem Q := by
  refine am_aload_n (pc := 0) 0 dX2_lengthOf_0 rfl rfl ?_
  refine am_getR (pc := 1) (k := 2) cl2 sh26 (by decide) (by decide) f2_9 rfl dX2_lengthOf_1 ?_
  refine am_iload_n (pc := 4) 1 dX2_lengthOf_4 rfl rfl ?_
  refine am_iald (pc := 5) sh27 (by decide) h.1 dX2_lengthOf_5 ?_
  replace h := h.2
  refine am_istoreE_n (pc := 6) 2 (loc' := [.ref 26, .int v1, .int (mem 27 v1.toNatClampNeg)]) dX2_lengthOf_6 rfl (by decide) rfl rfl ?_
  refine am_aload_n (pc := 7) 0 dX2_lengthOf_7 rfl rfl ?_
  refine am_iload_n (pc := 8) 1 dX2_lengthOf_8 rfl rfl ?_
  refine am_callV (pc := 9) m2_heightOf D 1 [.int v1] (rest := []) ok2_heightOf (by omega) rfl rfl sh26 (by decide) rfl l2_62 in2_heightOf se2_heightOf (Nat.le_of_ble_eq_true rfl) dX2_lengthOf_9 ?_
  refine am_Ci.use h (fun r_1 mem_1 h => ?_)
  show am_J m2_lengthOf (D + 1) 12 [.ref 26, .int v1, .int (mem 27 v1.toNatClampNeg)] [.int r_1] mem_1 Q
  refine am_aload_n (pc := 12) 0 dX2_lengthOf_12 rfl rfl ?_
  refine am_getR (pc := 13) (k := 0) cl2 sh26 (by decide) (by decide) f2_21 rfl dX2_lengthOf_13 ?_
  refine am_getR (pc := 16) (k := 6) cl1 sh1 (by decide) (by decide) f2_76 rfl dX2_lengthOf_16 ?_
  refine am_iload_n (pc := 19) 2 dX2_lengthOf_19 rfl rfl ?_
  refine am_iald (pc := 20) sh3 (by decide) h.1 dX2_lengthOf_20 ?_
  replace h := h.2
  refine am_isub (pc := 21) dX2_lengthOf_21 ?_
  refine am_mabs (pc := 22) l2_79 (by omega) (Nat.le_of_ble_eq_true rfl) dX2_lengthOf_22 ?_
  refine am_aload_n (pc := 25) 0 dX2_lengthOf_25 rfl rfl ?_
  refine am_getR (pc := 26) (k := 0) cl2 sh26 (by decide) (by decide) f2_21 rfl dX2_lengthOf_26 ?_
  refine am_getI (pc := 29) (k := 0) cl1 sh1 (by decide) (by decide) f2_84 rfl dX2_lengthOf_29 ?_
  refine am_iadd (pc := 32) dX2_lengthOf_32 ?_
  refine am_aload_n (pc := 33) 0 dX2_lengthOf_33 rfl rfl ?_
  refine am_getR (pc := 34) (k := 0) cl2 sh26 (by decide) (by decide) f2_21 rfl dX2_lengthOf_34 ?_
  refine am_getR (pc := 37) (k := 5) cl1 sh1 (by decide) (by decide) f2_87 rfl dX2_lengthOf_37 ?_
  refine am_iload_n (pc := 40) 2 dX2_lengthOf_40 rfl rfl ?_
  refine am_iald (pc := 41) sh2 (by decide) h.1 dX2_lengthOf_41 ?_
  replace h := h.2
  refine am_isub (pc := 42) dX2_lengthOf_42 ?_
  exact am_ireturn rfl dX2_lengthOf_43 h
set_option maxRecDepth 100000 in
set_option maxHeartbeats 4000000 in
theorem sg2_placeOf_0 {D : Nat} {mem : am_Mem} {Q : Option Value → am_Mem → Prop} {v1 : Int32} (h : am_J m2_placeOf D 2 [.ref 26, .int v1, .int 0] [] mem Q) : am_J m2_placeOf D 0 [.ref 26, .int v1, .null] [] mem Q := by
  refine am_iconst (pc := 0) (v := 0) dX2_placeOf_0 rfl ?_
  refine am_istoreE_n (pc := 1) 2 (loc' := [.ref 26, .int v1, .int 0]) dX2_placeOf_1 rfl (by decide) rfl rfl ?_
  exact h
set_option maxRecDepth 100000 in
set_option maxHeartbeats 4000000 in
theorem sg2_placeOf_2 {D : Nat} {mem : am_Mem} {Q : Option Value → am_Mem → Prop} {v1 : Int32} {v2 : Int32} (h : ((mem 26 1) ≤ v2 → Q (some (.int (-1))) mem) ∧ (¬ (mem 26 1) ≤ v2 → vp_in v2 6 ∧ ((¬ (mem 27 v2.toNatClampNeg) = v1 → am_J m2_placeOf D 2 [.ref 26, .int v1, .int (v2 + 1)] [] mem Q) ∧ ((mem 27 v2.toNatClampNeg) = v1 → vp_in v2 6 ∧ (Q (some (.int (mem 29 v2.toNatClampNeg))) mem))))) : am_J m2_placeOf D 2 [.ref 26, .int v1, .int v2] [] mem Q := by
  refine am_iload_n (pc := 2) 2 dX2_placeOf_2 rfl rfl ?_
  refine am_aload_n (pc := 3) 0 dX2_placeOf_3 rfl rfl ?_
  refine am_getI (pc := 4) (k := 1) cl2 sh26 (by decide) (by decide) f2_25 rfl dX2_placeOf_4 ?_
  refine am_icmp_ge (pc := 7) 33 dX2_placeOf_7 (by decide) (fun c => ?_) (fun c => ?_)
  · replace h := h.1 c
    refine am_iconst (pc := 33) (v := -1) dX2_placeOf_33 rfl ?_
    exact am_ireturn rfl dX2_placeOf_34 h
  · replace h := h.2 c
    refine am_aload_n (pc := 10) 0 dX2_placeOf_10 rfl rfl ?_
    refine am_getR (pc := 11) (k := 2) cl2 sh26 (by decide) (by decide) f2_9 rfl dX2_placeOf_11 ?_
    refine am_iload_n (pc := 14) 2 dX2_placeOf_14 rfl rfl ?_
    refine am_iald (pc := 15) sh27 (by decide) h.1 dX2_placeOf_15 ?_
    replace h := h.2
    refine am_iload_n (pc := 16) 1 dX2_placeOf_16 rfl rfl ?_
    refine am_icmp_ne (pc := 17) 27 dX2_placeOf_17 (by decide) (fun c => ?_) (fun c => ?_)
    · replace h := h.1 c
      refine am_iincE (pc := 27) (v := 1) (loc' := [.ref 26, .int v1, .int (v2 + 1)]) dX2_placeOf_27 rfl rfl (by decide) rfl rfl ?_
      refine am_goto (pc := 30) 2 dX2_placeOf_30 (by decide) ?_
      exact h
    · replace h := h.2 c
      refine am_aload_n (pc := 20) 0 dX2_placeOf_20 rfl rfl ?_
      refine am_getR (pc := 21) (k := 4) cl2 sh26 (by decide) (by decide) f2_18 rfl dX2_placeOf_21 ?_
      refine am_iload_n (pc := 24) 2 dX2_placeOf_24 rfl rfl ?_
      refine am_iald (pc := 25) sh29 (by decide) h.1 dX2_placeOf_25 ?_
      replace h := h.2
      exact am_ireturn rfl dX2_placeOf_26 h
set_option maxRecDepth 100000 in
set_option maxHeartbeats 4000000 in
theorem sg2_doCross_0 {D : Nat} {mem : am_Mem} {Q : Option Value → am_Mem → Prop} {v1 : Int32} {v2 : Int32} {v3 : Int32} {v4 : Int32} (h : (v2 = v4 → Q (some (.int 1)) mem) ∧ (¬ v2 = v4 → am_Ci m2_isFirstPartMet D [.ref 26, .int v1, .int v2, .int v3, .int v4] mem (fun r_1 mem_1 => (¬ r_1 = 0 → Q (some (.int 1)) mem_1) ∧ (r_1 = 0 → am_Ci m2_isFirstPartMet D [.ref 26, .int v3, .int v4, .int v1, .int v2] mem_1 (fun r_2 mem_2 => (¬ r_2 = 0 → Q (some (.int 1)) mem_2) ∧ (r_2 = 0 → am_Ci m2_doFirstPartsMeet D [.ref 26, .int v1, .int v2, .int v3, .int v4] mem_2 (fun r_3 mem_3 => (r_3 = 0 → Q (some (.int 0)) mem_3) ∧ (¬ r_3 = 0 → Q (some (.int 1)) mem_3)))))))) : am_J m2_doCross (D + 1) 0 [.ref 26, .int v1, .int v2, .int v3, .int v4] [] mem Q := by
  refine am_iload_n (pc := 0) 2 dX2_doCross_0 rfl rfl ?_
  refine am_iload (pc := 1) dX2_doCross_1 rfl ?_
  refine am_icmp_eq (pc := 3) 42 dX2_doCross_3 (by decide) (fun c => ?_) (fun c => ?_)
  · replace h := h.1 c
    refine am_iconst (pc := 42) (v := 1) dX2_doCross_42 rfl ?_
    refine am_goto (pc := 43) 47 dX2_doCross_43 (by decide) ?_
    exact am_zreturn rfl (by decide) dX2_doCross_47 h
  · replace h := h.2 c
    refine am_aload_n (pc := 6) 0 dX2_doCross_6 rfl rfl ?_
    refine am_iload_n (pc := 7) 1 dX2_doCross_7 rfl rfl ?_
    refine am_iload_n (pc := 8) 2 dX2_doCross_8 rfl rfl ?_
    refine am_iload_n (pc := 9) 3 dX2_doCross_9 rfl rfl ?_
    refine am_iload (pc := 10) dX2_doCross_10 rfl ?_
    refine am_callV (pc := 12) m2_isFirstPartMet D 4 [.int v1, .int v2, .int v3, .int v4] (rest := []) ok2_isFirstPartMet (by omega) rfl rfl sh26 (by decide) rfl l2_90 in2_isFirstPartMet se2_isFirstPartMet (Nat.le_of_ble_eq_true rfl) dX2_doCross_12 ?_
    refine am_Ci.use h (fun r_1 mem_1 h => ?_)
    show am_J m2_doCross (D + 1) 15 [.ref 26, .int v1, .int v2, .int v3, .int v4] [.int r_1] mem_1 Q
    refine am_if_ne (pc := 15) 42 dX2_doCross_15 (by decide) (fun c => ?_) (fun c => ?_)
    · replace h := h.1 c
      refine am_iconst (pc := 42) (v := 1) dX2_doCross_42 rfl ?_
      refine am_goto (pc := 43) 47 dX2_doCross_43 (by decide) ?_
      exact am_zreturn rfl (by decide) dX2_doCross_47 h
    · replace h := h.2 c
      refine am_aload_n (pc := 18) 0 dX2_doCross_18 rfl rfl ?_
      refine am_iload_n (pc := 19) 3 dX2_doCross_19 rfl rfl ?_
      refine am_iload (pc := 20) dX2_doCross_20 rfl ?_
      refine am_iload_n (pc := 22) 1 dX2_doCross_22 rfl rfl ?_
      refine am_iload_n (pc := 23) 2 dX2_doCross_23 rfl rfl ?_
      refine am_callV (pc := 24) m2_isFirstPartMet D 4 [.int v3, .int v4, .int v1, .int v2] (rest := []) ok2_isFirstPartMet (by omega) rfl rfl sh26 (by decide) rfl l2_90 in2_isFirstPartMet se2_isFirstPartMet (Nat.le_of_ble_eq_true rfl) dX2_doCross_24 ?_
      refine am_Ci.use h (fun r_2 mem_2 h => ?_)
      show am_J m2_doCross (D + 1) 27 [.ref 26, .int v1, .int v2, .int v3, .int v4] [.int r_2] mem_2 Q
      refine am_if_ne (pc := 27) 42 dX2_doCross_27 (by decide) (fun c => ?_) (fun c => ?_)
      · replace h := h.1 c
        refine am_iconst (pc := 42) (v := 1) dX2_doCross_42 rfl ?_
        refine am_goto (pc := 43) 47 dX2_doCross_43 (by decide) ?_
        exact am_zreturn rfl (by decide) dX2_doCross_47 h
      · replace h := h.2 c
        refine am_aload_n (pc := 30) 0 dX2_doCross_30 rfl rfl ?_
        refine am_iload_n (pc := 31) 1 dX2_doCross_31 rfl rfl ?_
        refine am_iload_n (pc := 32) 2 dX2_doCross_32 rfl rfl ?_
        refine am_iload_n (pc := 33) 3 dX2_doCross_33 rfl rfl ?_
        refine am_iload (pc := 34) dX2_doCross_34 rfl ?_
        refine am_callV (pc := 36) m2_doFirstPartsMeet D 4 [.int v1, .int v2, .int v3, .int v4] (rest := []) ok2_doFirstPartsMeet (by omega) rfl rfl sh26 (by decide) rfl l2_93 in2_doFirstPartsMeet se2_doFirstPartsMeet (Nat.le_of_ble_eq_true rfl) dX2_doCross_36 ?_
        refine am_Ci.use h (fun r_3 mem_3 h => ?_)
        show am_J m2_doCross (D + 1) 39 [.ref 26, .int v1, .int v2, .int v3, .int v4] [.int r_3] mem_3 Q
        refine am_if_eq (pc := 39) 46 dX2_doCross_39 (by decide) (fun c => ?_) (fun c => ?_)
        · replace h := h.1 c
          refine am_iconst (pc := 46) (v := 0) dX2_doCross_46 rfl ?_
          exact am_zreturn rfl (by decide) dX2_doCross_47 h
        · replace h := h.2 c
          refine am_iconst (pc := 42) (v := 1) dX2_doCross_42 rfl ?_
          refine am_goto (pc := 43) 47 dX2_doCross_43 (by decide) ?_
          exact am_zreturn rfl (by decide) dX2_doCross_47 h
set_option maxRecDepth 100000 in
set_option maxHeartbeats 4000000 in
theorem sg2_isFirstPartMet_0 {D : Nat} {mem : am_Mem} {Q : Option Value → am_Mem → Prop} {v1 : Int32} {v2 : Int32} {v3 : Int32} {v4 : Int32} (h : vp_in v3 8 ∧ (vp_in v1 8 ∧ (((mem 2 v1.toNatClampNeg) < (mem 2 v3.toNatClampNeg) → Q (some (.int 0)) mem) ∧ (¬ (mem 2 v1.toNatClampNeg) < (mem 2 v3.toNatClampNeg) → vp_in v1 8 ∧ ((v4 < (if v2 < (mem 3 v1.toNatClampNeg) then v2 else (mem 3 v1.toNatClampNeg)) → Q (some (.int 0)) mem) ∧ (¬ v4 < (if v2 < (mem 3 v1.toNatClampNeg) then v2 else (mem 3 v1.toNatClampNeg)) → vp_in v1 8 ∧ (((if (mem 3 v1.toNatClampNeg) < v2 then v2 else (mem 3 v1.toNatClampNeg)) < v4 → Q (some (.int 0)) mem) ∧ (¬ (if (mem 3 v1.toNatClampNeg) < v2 then v2 else (mem 3 v1.toNatClampNeg)) < v4 → Q (some (.int 1)) mem)))))))) : am_J m2_isFirstPartMet (D + 1) 0 [.ref 26, .int v1, .int v2, .int v3, .int v4] [] mem Q := by
  refine am_aload_n (pc := 0) 0 dX2_isFirstPartMet_0 rfl rfl ?_
  refine am_getR (pc := 1) (k := 0) cl2 sh26 (by decide) (by decide) f2_21 rfl dX2_isFirstPartMet_1 ?_
  refine am_getR (pc := 4) (k := 5) cl1 sh1 (by decide) (by decide) f2_87 rfl dX2_isFirstPartMet_4 ?_
  refine am_iload_n (pc := 7) 3 dX2_isFirstPartMet_7 rfl rfl ?_
  refine am_iald (pc := 8) sh2 (by decide) h.1 dX2_isFirstPartMet_8 ?_
  replace h := h.2
  refine am_aload_n (pc := 9) 0 dX2_isFirstPartMet_9 rfl rfl ?_
  refine am_getR (pc := 10) (k := 0) cl2 sh26 (by decide) (by decide) f2_21 rfl dX2_isFirstPartMet_10 ?_
  refine am_getR (pc := 13) (k := 5) cl1 sh1 (by decide) (by decide) f2_87 rfl dX2_isFirstPartMet_13 ?_
  refine am_iload_n (pc := 16) 1 dX2_isFirstPartMet_16 rfl rfl ?_
  refine am_iald (pc := 17) sh2 (by decide) h.1 dX2_isFirstPartMet_17 ?_
  replace h := h.2
  refine am_icmp_gt (pc := 18) 61 dX2_isFirstPartMet_18 (by decide) (fun c => ?_) (fun c => ?_)
  · replace h := h.1 c
    refine am_iconst (pc := 61) (v := 0) dX2_isFirstPartMet_61 rfl ?_
    exact am_zreturn rfl (by decide) dX2_isFirstPartMet_62 h
  · replace h := h.2 c
    refine am_aload_n (pc := 21) 0 dX2_isFirstPartMet_21 rfl rfl ?_
    refine am_getR (pc := 22) (k := 0) cl2 sh26 (by decide) (by decide) f2_21 rfl dX2_isFirstPartMet_22 ?_
    refine am_getR (pc := 25) (k := 6) cl1 sh1 (by decide) (by decide) f2_76 rfl dX2_isFirstPartMet_25 ?_
    refine am_iload_n (pc := 28) 1 dX2_isFirstPartMet_28 rfl rfl ?_
    refine am_iald (pc := 29) sh3 (by decide) h.1 dX2_isFirstPartMet_29 ?_
    replace h := h.2
    refine am_iload_n (pc := 30) 2 dX2_isFirstPartMet_30 rfl rfl ?_
    refine am_mmin (pc := 31) l2_96 (by omega) (Nat.le_of_ble_eq_true rfl) dX2_isFirstPartMet_31 ?_
    refine am_iload (pc := 34) dX2_isFirstPartMet_34 rfl ?_
    refine am_icmp_gt (pc := 36) 61 dX2_isFirstPartMet_36 (by decide) (fun c => ?_) (fun c => ?_)
    · replace h := h.1 c
      refine am_iconst (pc := 61) (v := 0) dX2_isFirstPartMet_61 rfl ?_
      exact am_zreturn rfl (by decide) dX2_isFirstPartMet_62 h
    · replace h := h.2 c
      refine am_iload (pc := 39) dX2_isFirstPartMet_39 rfl ?_
      refine am_aload_n (pc := 41) 0 dX2_isFirstPartMet_41 rfl rfl ?_
      refine am_getR (pc := 42) (k := 0) cl2 sh26 (by decide) (by decide) f2_21 rfl dX2_isFirstPartMet_42 ?_
      refine am_getR (pc := 45) (k := 6) cl1 sh1 (by decide) (by decide) f2_76 rfl dX2_isFirstPartMet_45 ?_
      refine am_iload_n (pc := 48) 1 dX2_isFirstPartMet_48 rfl rfl ?_
      refine am_iald (pc := 49) sh3 (by decide) h.1 dX2_isFirstPartMet_49 ?_
      replace h := h.2
      refine am_iload_n (pc := 50) 2 dX2_isFirstPartMet_50 rfl rfl ?_
      refine am_mmax (pc := 51) l2_100 (by omega) (Nat.le_of_ble_eq_true rfl) dX2_isFirstPartMet_51 ?_
      refine am_icmp_gt (pc := 54) 61 dX2_isFirstPartMet_54 (by decide) (fun c => ?_) (fun c => ?_)
      · replace h := h.1 c
        refine am_iconst (pc := 61) (v := 0) dX2_isFirstPartMet_61 rfl ?_
        exact am_zreturn rfl (by decide) dX2_isFirstPartMet_62 h
      · replace h := h.2 c
        refine am_iconst (pc := 57) (v := 1) dX2_isFirstPartMet_57 rfl ?_
        refine am_goto (pc := 58) 62 dX2_isFirstPartMet_58 (by decide) ?_
        exact am_zreturn rfl (by decide) dX2_isFirstPartMet_62 h
set_option maxRecDepth 100000 in
set_option maxHeartbeats 4000000 in
theorem sg2_doFirstPartsMeet_0 {D : Nat} {mem : am_Mem} {Q : Option Value → am_Mem → Prop} {v1 : Int32} {v2 : Int32} {v3 : Int32} {v4 : Int32} (h : vp_in v1 8 ∧ (vp_in v3 8 ∧ ((¬ (mem 2 v1.toNatClampNeg) = (mem 2 v3.toNatClampNeg) → Q (some (.int 0)) mem) ∧ ((mem 2 v1.toNatClampNeg) = (mem 2 v3.toNatClampNeg) → vp_in v1 8 ∧ (vp_in v3 8 ∧ (((if (mem 3 v3.toNatClampNeg) < v4 then v4 else (mem 3 v3.toNatClampNeg)) < (if v2 < (mem 3 v1.toNatClampNeg) then v2 else (mem 3 v1.toNatClampNeg)) → Q (some (.int 0)) mem) ∧ (¬ (if (mem 3 v3.toNatClampNeg) < v4 then v4 else (mem 3 v3.toNatClampNeg)) < (if v2 < (mem 3 v1.toNatClampNeg) then v2 else (mem 3 v1.toNatClampNeg)) → vp_in v3 8 ∧ (vp_in v1 8 ∧ (((if (mem 3 v1.toNatClampNeg) < v2 then v2 else (mem 3 v1.toNatClampNeg)) < (if v4 < (mem 3 v3.toNatClampNeg) then v4 else (mem 3 v3.toNatClampNeg)) → Q (some (.int 0)) mem) ∧ (¬ (if (mem 3 v1.toNatClampNeg) < v2 then v2 else (mem 3 v1.toNatClampNeg)) < (if v4 < (mem 3 v3.toNatClampNeg) then v4 else (mem 3 v3.toNatClampNeg)) → Q (some (.int 1)) mem)))))))))) : am_J m2_doFirstPartsMeet (D + 1) 0 [.ref 26, .int v1, .int v2, .int v3, .int v4] [] mem Q := by
  refine am_aload_n (pc := 0) 0 dX2_doFirstPartsMeet_0 rfl rfl ?_
  refine am_getR (pc := 1) (k := 0) cl2 sh26 (by decide) (by decide) f2_21 rfl dX2_doFirstPartsMeet_1 ?_
  refine am_getR (pc := 4) (k := 5) cl1 sh1 (by decide) (by decide) f2_87 rfl dX2_doFirstPartsMeet_4 ?_
  refine am_iload_n (pc := 7) 1 dX2_doFirstPartsMeet_7 rfl rfl ?_
  refine am_iald (pc := 8) sh2 (by decide) h.1 dX2_doFirstPartsMeet_8 ?_
  replace h := h.2
  refine am_aload_n (pc := 9) 0 dX2_doFirstPartsMeet_9 rfl rfl ?_
  refine am_getR (pc := 10) (k := 0) cl2 sh26 (by decide) (by decide) f2_21 rfl dX2_doFirstPartsMeet_10 ?_
  refine am_getR (pc := 13) (k := 5) cl1 sh1 (by decide) (by decide) f2_87 rfl dX2_doFirstPartsMeet_13 ?_
  refine am_iload_n (pc := 16) 3 dX2_doFirstPartsMeet_16 rfl rfl ?_
  refine am_iald (pc := 17) sh2 (by decide) h.1 dX2_doFirstPartsMeet_17 ?_
  replace h := h.2
  refine am_icmp_ne (pc := 18) 85 dX2_doFirstPartsMeet_18 (by decide) (fun c => ?_) (fun c => ?_)
  · replace h := h.1 c
    refine am_iconst (pc := 85) (v := 0) dX2_doFirstPartsMeet_85 rfl ?_
    exact am_zreturn rfl (by decide) dX2_doFirstPartsMeet_86 h
  · replace h := h.2 c
    refine am_aload_n (pc := 21) 0 dX2_doFirstPartsMeet_21 rfl rfl ?_
    refine am_getR (pc := 22) (k := 0) cl2 sh26 (by decide) (by decide) f2_21 rfl dX2_doFirstPartsMeet_22 ?_
    refine am_getR (pc := 25) (k := 6) cl1 sh1 (by decide) (by decide) f2_76 rfl dX2_doFirstPartsMeet_25 ?_
    refine am_iload_n (pc := 28) 1 dX2_doFirstPartsMeet_28 rfl rfl ?_
    refine am_iald (pc := 29) sh3 (by decide) h.1 dX2_doFirstPartsMeet_29 ?_
    replace h := h.2
    refine am_iload_n (pc := 30) 2 dX2_doFirstPartsMeet_30 rfl rfl ?_
    refine am_mmin (pc := 31) l2_96 (by omega) (Nat.le_of_ble_eq_true rfl) dX2_doFirstPartsMeet_31 ?_
    refine am_aload_n (pc := 34) 0 dX2_doFirstPartsMeet_34 rfl rfl ?_
    refine am_getR (pc := 35) (k := 0) cl2 sh26 (by decide) (by decide) f2_21 rfl dX2_doFirstPartsMeet_35 ?_
    refine am_getR (pc := 38) (k := 6) cl1 sh1 (by decide) (by decide) f2_76 rfl dX2_doFirstPartsMeet_38 ?_
    refine am_iload_n (pc := 41) 3 dX2_doFirstPartsMeet_41 rfl rfl ?_
    refine am_iald (pc := 42) sh3 (by decide) h.1 dX2_doFirstPartsMeet_42 ?_
    replace h := h.2
    refine am_iload (pc := 43) dX2_doFirstPartsMeet_43 rfl ?_
    refine am_mmax (pc := 45) l2_100 (by omega) (Nat.le_of_ble_eq_true rfl) dX2_doFirstPartsMeet_45 ?_
    refine am_icmp_gt (pc := 48) 85 dX2_doFirstPartsMeet_48 (by decide) (fun c => ?_) (fun c => ?_)
    · replace h := h.1 c
      refine am_iconst (pc := 85) (v := 0) dX2_doFirstPartsMeet_85 rfl ?_
      exact am_zreturn rfl (by decide) dX2_doFirstPartsMeet_86 h
    · replace h := h.2 c
      refine am_aload_n (pc := 51) 0 dX2_doFirstPartsMeet_51 rfl rfl ?_
      refine am_getR (pc := 52) (k := 0) cl2 sh26 (by decide) (by decide) f2_21 rfl dX2_doFirstPartsMeet_52 ?_
      refine am_getR (pc := 55) (k := 6) cl1 sh1 (by decide) (by decide) f2_76 rfl dX2_doFirstPartsMeet_55 ?_
      refine am_iload_n (pc := 58) 3 dX2_doFirstPartsMeet_58 rfl rfl ?_
      refine am_iald (pc := 59) sh3 (by decide) h.1 dX2_doFirstPartsMeet_59 ?_
      replace h := h.2
      refine am_iload (pc := 60) dX2_doFirstPartsMeet_60 rfl ?_
      refine am_mmin (pc := 62) l2_96 (by omega) (Nat.le_of_ble_eq_true rfl) dX2_doFirstPartsMeet_62 ?_
      refine am_aload_n (pc := 65) 0 dX2_doFirstPartsMeet_65 rfl rfl ?_
      refine am_getR (pc := 66) (k := 0) cl2 sh26 (by decide) (by decide) f2_21 rfl dX2_doFirstPartsMeet_66 ?_
      refine am_getR (pc := 69) (k := 6) cl1 sh1 (by decide) (by decide) f2_76 rfl dX2_doFirstPartsMeet_69 ?_
      refine am_iload_n (pc := 72) 1 dX2_doFirstPartsMeet_72 rfl rfl ?_
      refine am_iald (pc := 73) sh3 (by decide) h.1 dX2_doFirstPartsMeet_73 ?_
      replace h := h.2
      refine am_iload_n (pc := 74) 2 dX2_doFirstPartsMeet_74 rfl rfl ?_
      refine am_mmax (pc := 75) l2_100 (by omega) (Nat.le_of_ble_eq_true rfl) dX2_doFirstPartsMeet_75 ?_
      refine am_icmp_gt (pc := 78) 85 dX2_doFirstPartsMeet_78 (by decide) (fun c => ?_) (fun c => ?_)
      · replace h := h.1 c
        refine am_iconst (pc := 85) (v := 0) dX2_doFirstPartsMeet_85 rfl ?_
        exact am_zreturn rfl (by decide) dX2_doFirstPartsMeet_86 h
      · replace h := h.2 c
        refine am_iconst (pc := 81) (v := 1) dX2_doFirstPartsMeet_81 rfl ?_
        refine am_goto (pc := 82) 86 dX2_doFirstPartsMeet_82 (by decide) ?_
        exact am_zreturn rfl (by decide) dX2_doFirstPartsMeet_86 h
set_option maxRecDepth 100000 in
set_option maxHeartbeats 4000000 in
theorem sg3_ownFault_0 {D : Nat} {mem : am_Mem} {Q : Option Value → am_Mem → Prop} {v1 : Int32} (h : vp_in v1 8 ∧ (((mem 21 v1.toNatClampNeg) = (-9) → am_J m3_ownFault (D + 1) 35 [.null, .null] [] mem Q) ∧ (¬ (mem 21 v1.toNatClampNeg) = (-9) → vp_in v1 8 ∧ (am_Ci m6_boxOf D [.int v1, .int (mem 21 v1.toNatClampNeg)] mem (fun r_1 mem_1 => am_Ci m0_isFree D [.ref 8, .int r_1] mem_1 (fun r_2 mem_2 => (¬ r_2 = 0 → am_J m3_ownFault (D + 1) 35 [.null, .null] [] mem_2 Q) ∧ (r_2 = 0 → am_J m3_ownFault (D + 1) 36 [.null, .null] [.int 1] mem_2 Q))))))) : am_J m3_ownFault (D + 1) 0 [.ref 20, .int v1] [] mem Q := by
  refine am_aload_n (pc := 0) 0 dX3_ownFault_0 rfl rfl ?_
  refine am_getR (pc := 1) (k := 2) cl3 sh20 (by decide) (by decide) f3_9 rfl dX3_ownFault_1 ?_
  refine am_iload_n (pc := 4) 1 dX3_ownFault_4 rfl rfl ?_
  refine am_iald (pc := 5) sh21 (by decide) h.1 dX3_ownFault_5 ?_
  replace h := h.2
  refine am_bipush (pc := 6) (v := -9) dX3_ownFault_6 rfl ?_
  refine am_icmp_eq (pc := 8) 35 dX3_ownFault_8 (by decide) (fun c => ?_) (fun c => ?_)
  · replace h := h.1 c
    exact am_drop [0, 1] h
  · replace h := h.2 c
    refine am_aload_n (pc := 11) 0 dX3_ownFault_11 rfl rfl ?_
    refine am_getR (pc := 12) (k := 1) cl3 sh20 (by decide) (by decide) f3_19 rfl dX3_ownFault_12 ?_
    refine am_iload_n (pc := 15) 1 dX3_ownFault_15 rfl rfl ?_
    refine am_aload_n (pc := 16) 0 dX3_ownFault_16 rfl rfl ?_
    refine am_getR (pc := 17) (k := 2) cl3 sh20 (by decide) (by decide) f3_9 rfl dX3_ownFault_17 ?_
    refine am_iload_n (pc := 20) 1 dX3_ownFault_20 rfl rfl ?_
    refine am_iald (pc := 21) sh21 (by decide) h.1 dX3_ownFault_21 ?_
    replace h := h.2
    refine am_callN (pc := 22) m6_boxOf D 2 [.int v1, .int (mem 21 v1.toNatClampNeg)] (rest := [.ref 8]) ok6_boxOf (by omega) rfl rfl l3_23 st6_boxOf (Nat.le_of_ble_eq_true rfl) dX3_ownFault_22 ?_
    refine am_Ci.use h (fun r_1 mem_1 h => ?_)
    show am_J m3_ownFault (D + 1) 25 [.ref 20, .int v1] [.int r_1, .ref 8] mem_1 Q
    refine am_callV (pc := 25) m0_isFree D 1 [.int r_1] (rest := []) ok0_isFree (by omega) rfl rfl sh8 (by decide) rfl l3_27 in0_isFree se0_isFree (Nat.le_of_ble_eq_true rfl) dX3_ownFault_25 ?_
    refine am_Ci.use h (fun r_2 mem_2 h => ?_)
    show am_J m3_ownFault (D + 1) 28 [.ref 20, .int v1] [.int r_2] mem_2 Q
    refine am_if_ne (pc := 28) 35 dX3_ownFault_28 (by decide) (fun c => ?_) (fun c => ?_)
    · replace h := h.1 c
      exact am_drop [0, 1] h
    · replace h := h.2 c
      refine am_iconst (pc := 31) (v := 1) dX3_ownFault_31 rfl ?_
      refine am_goto (pc := 32) 36 dX3_ownFault_32 (by decide) ?_
      exact am_drop [0, 1] h
set_option maxRecDepth 100000 in
set_option maxHeartbeats 4000000 in
theorem sg3_ownFault_35 {D : Nat} {mem : am_Mem} {Q : Option Value → am_Mem → Prop}  (h : am_J m3_ownFault (D + 1) 36 [.null, .null] [.int 0] mem Q) : am_J m3_ownFault (D + 1) 35 [.null, .null] [] mem Q := by
  refine am_iconst (pc := 35) (v := 0) dX3_ownFault_35 rfl ?_
  exact h
set_option maxRecDepth 100000 in
set_option maxHeartbeats 4000000 in
theorem sg3_ownFault_36 {D : Nat} {mem : am_Mem} {Q : Option Value → am_Mem → Prop} {s0 : Int32} (h : am_Ci m6_toInt D [.int s0] mem (fun r_1 mem_1 => Q (some (.int r_1)) mem_1)) : am_J m3_ownFault (D + 1) 36 [.null, .null] [.int s0] mem Q := by
  refine am_callN (pc := 36) m6_toInt D 1 [.int s0] (rest := []) ok6_toInt (by omega) rfl rfl l3_33 st6_toInt (Nat.le_of_ble_eq_true rfl) dX3_ownFault_36 ?_
  refine am_Ci.use h (fun r_1 mem_1 h => ?_)
  show am_J m3_ownFault (D + 1) 39 [.null, .null] [.int r_1] mem_1 Q
  exact am_ireturn rfl dX3_ownFault_39 h
set_option maxRecDepth 100000 in
set_option maxHeartbeats 4000000 in
theorem sg3_sharedFault_0 {D : Nat} {mem : am_Mem} {Q : Option Value → am_Mem → Prop} {v1 : Int32} {v2 : Int32} (h : vp_in v1 8 ∧ (((mem 21 v1.toNatClampNeg) = (-9) → am_J m3_sharedFault (D + 1) 56 [.null, .null, .null] [] mem Q) ∧ (¬ (mem 21 v1.toNatClampNeg) = (-9) → vp_in v2 8 ∧ (((mem 21 v2.toNatClampNeg) = (-9) → am_J m3_sharedFault (D + 1) 56 [.null, .null, .null] [] mem Q) ∧ (¬ (mem 21 v2.toNatClampNeg) = (-9) → vp_in v1 8 ∧ (am_Ci m6_boxOf D [.int v1, .int (mem 21 v1.toNatClampNeg)] mem (fun r_1 mem_1 => vp_in v2 8 ∧ (am_Ci m6_boxOf D [.int v2, .int (mem_1 21 v2.toNatClampNeg)] mem_1 (fun r_2 mem_2 => am_Ci m0_doClash D [.ref 8, .int r_1, .int r_2] mem_2 (fun r_3 mem_3 => (r_3 = 0 → am_J m3_sharedFault (D + 1) 56 [.null, .null, .null] [] mem_3 Q) ∧ (¬ r_3 = 0 → am_J m3_sharedFault (D + 1) 57 [.null, .null, .null] [.int 1] mem_3 Q))))))))))) : am_J m3_sharedFault (D + 1) 0 [.ref 20, .int v1, .int v2] [] mem Q := by
  refine am_aload_n (pc := 0) 0 dX3_sharedFault_0 rfl rfl ?_
  refine am_getR (pc := 1) (k := 2) cl3 sh20 (by decide) (by decide) f3_9 rfl dX3_sharedFault_1 ?_
  refine am_iload_n (pc := 4) 1 dX3_sharedFault_4 rfl rfl ?_
  refine am_iald (pc := 5) sh21 (by decide) h.1 dX3_sharedFault_5 ?_
  replace h := h.2
  refine am_bipush (pc := 6) (v := -9) dX3_sharedFault_6 rfl ?_
  refine am_icmp_eq (pc := 8) 56 dX3_sharedFault_8 (by decide) (fun c => ?_) (fun c => ?_)
  · replace h := h.1 c
    exact am_drop [0, 1, 2] h
  · replace h := h.2 c
    refine am_aload_n (pc := 11) 0 dX3_sharedFault_11 rfl rfl ?_
    refine am_getR (pc := 12) (k := 2) cl3 sh20 (by decide) (by decide) f3_9 rfl dX3_sharedFault_12 ?_
    refine am_iload_n (pc := 15) 2 dX3_sharedFault_15 rfl rfl ?_
    refine am_iald (pc := 16) sh21 (by decide) h.1 dX3_sharedFault_16 ?_
    replace h := h.2
    refine am_bipush (pc := 17) (v := -9) dX3_sharedFault_17 rfl ?_
    refine am_icmp_eq (pc := 19) 56 dX3_sharedFault_19 (by decide) (fun c => ?_) (fun c => ?_)
    · replace h := h.1 c
      exact am_drop [0, 1, 2] h
    · replace h := h.2 c
      refine am_aload_n (pc := 22) 0 dX3_sharedFault_22 rfl rfl ?_
      refine am_getR (pc := 23) (k := 1) cl3 sh20 (by decide) (by decide) f3_19 rfl dX3_sharedFault_23 ?_
      refine am_iload_n (pc := 26) 1 dX3_sharedFault_26 rfl rfl ?_
      refine am_aload_n (pc := 27) 0 dX3_sharedFault_27 rfl rfl ?_
      refine am_getR (pc := 28) (k := 2) cl3 sh20 (by decide) (by decide) f3_9 rfl dX3_sharedFault_28 ?_
      refine am_iload_n (pc := 31) 1 dX3_sharedFault_31 rfl rfl ?_
      refine am_iald (pc := 32) sh21 (by decide) h.1 dX3_sharedFault_32 ?_
      replace h := h.2
      refine am_callN (pc := 33) m6_boxOf D 2 [.int v1, .int (mem 21 v1.toNatClampNeg)] (rest := [.ref 8]) ok6_boxOf (by omega) rfl rfl l3_23 st6_boxOf (Nat.le_of_ble_eq_true rfl) dX3_sharedFault_33 ?_
      refine am_Ci.use h (fun r_1 mem_1 h => ?_)
      show am_J m3_sharedFault (D + 1) 36 [.ref 20, .int v1, .int v2] [.int r_1, .ref 8] mem_1 Q
      refine am_iload_n (pc := 36) 2 dX3_sharedFault_36 rfl rfl ?_
      refine am_aload_n (pc := 37) 0 dX3_sharedFault_37 rfl rfl ?_
      refine am_getR (pc := 38) (k := 2) cl3 sh20 (by decide) (by decide) f3_9 rfl dX3_sharedFault_38 ?_
      refine am_iload_n (pc := 41) 2 dX3_sharedFault_41 rfl rfl ?_
      refine am_iald (pc := 42) sh21 (by decide) h.1 dX3_sharedFault_42 ?_
      replace h := h.2
      refine am_callN (pc := 43) m6_boxOf D 2 [.int v2, .int (mem_1 21 v2.toNatClampNeg)] (rest := [.int r_1, .ref 8]) ok6_boxOf (by omega) rfl rfl l3_23 st6_boxOf (Nat.le_of_ble_eq_true rfl) dX3_sharedFault_43 ?_
      refine am_Ci.use h (fun r_2 mem_2 h => ?_)
      show am_J m3_sharedFault (D + 1) 46 [.ref 20, .int v1, .int v2] [.int r_2, .int r_1, .ref 8] mem_2 Q
      refine am_callV (pc := 46) m0_doClash D 2 [.int r_1, .int r_2] (rest := []) ok0_doClash (by omega) rfl rfl sh8 (by decide) rfl l3_37 in0_doClash se0_doClash (Nat.le_of_ble_eq_true rfl) dX3_sharedFault_46 ?_
      refine am_Ci.use h (fun r_3 mem_3 h => ?_)
      show am_J m3_sharedFault (D + 1) 49 [.ref 20, .int v1, .int v2] [.int r_3] mem_3 Q
      refine am_if_eq (pc := 49) 56 dX3_sharedFault_49 (by decide) (fun c => ?_) (fun c => ?_)
      · replace h := h.1 c
        exact am_drop [0, 1, 2] h
      · replace h := h.2 c
        refine am_iconst (pc := 52) (v := 1) dX3_sharedFault_52 rfl ?_
        refine am_goto (pc := 53) 57 dX3_sharedFault_53 (by decide) ?_
        exact am_drop [0, 1, 2] h
set_option maxRecDepth 100000 in
set_option maxHeartbeats 4000000 in
theorem sg3_sharedFault_56 {D : Nat} {mem : am_Mem} {Q : Option Value → am_Mem → Prop}  (h : am_J m3_sharedFault (D + 1) 57 [.null, .null, .null] [.int 0] mem Q) : am_J m3_sharedFault (D + 1) 56 [.null, .null, .null] [] mem Q := by
  refine am_iconst (pc := 56) (v := 0) dX3_sharedFault_56 rfl ?_
  exact h
set_option maxRecDepth 100000 in
set_option maxHeartbeats 4000000 in
theorem sg3_sharedFault_57 {D : Nat} {mem : am_Mem} {Q : Option Value → am_Mem → Prop} {s0 : Int32} (h : am_Ci m6_toInt D [.int s0] mem (fun r_1 mem_1 => Q (some (.int r_1)) mem_1)) : am_J m3_sharedFault (D + 1) 57 [.null, .null, .null] [.int s0] mem Q := by
  refine am_callN (pc := 57) m6_toInt D 1 [.int s0] (rest := []) ok6_toInt (by omega) rfl rfl l3_33 st6_toInt (Nat.le_of_ble_eq_true rfl) dX3_sharedFault_57 ?_
  refine am_Ci.use h (fun r_1 mem_1 h => ?_)
  show am_J m3_sharedFault (D + 1) 60 [.null, .null, .null] [.int r_1] mem_1 Q
  exact am_ireturn rfl dX3_sharedFault_60 h
set_option maxRecDepth 100000 in
set_option maxHeartbeats 4000000 in
theorem sg3_countFaults_0 {D : Nat} {mem : am_Mem} {Q : Option Value → am_Mem → Prop}  (h : am_J m3_countFaults (D + 1) 4 [.ref 20, .int 0, .int 0, .null] [] mem Q) : am_J m3_countFaults (D + 1) 0 [.ref 20, .null, .null, .null] [] mem Q := by
  refine am_iconst (pc := 0) (v := 0) dX3_countFaults_0 rfl ?_
  refine am_istoreE_n (pc := 1) 1 (loc' := [.ref 20, .int 0, .null, .null]) dX3_countFaults_1 rfl (by decide) rfl rfl ?_
  refine am_iconst (pc := 2) (v := 0) dX3_countFaults_2 rfl ?_
  refine am_istoreE_n (pc := 3) 2 (loc' := [.ref 20, .int 0, .int 0, .null]) dX3_countFaults_3 rfl (by decide) rfl rfl ?_
  exact h
set_option maxRecDepth 100000 in
set_option maxHeartbeats 4000000 in
theorem sg3_countFaults_4 {D : Nat} {mem : am_Mem} {Q : Option Value → am_Mem → Prop} {v1 : Int32} {v2 : Int32} (h : ((mem 1 4) ≤ v2 → Q (some (.int v1)) mem) ∧ (¬ (mem 1 4) ≤ v2 → am_Ci m3_ownFault D [.ref 20, .int v2] mem (fun r_1 mem_1 => am_J m3_countFaults (D + 1) 25 [.ref 20, .int (v1 + r_1), .int v2, .int 0] [] mem_1 Q))) : am_J m3_countFaults (D + 1) 4 [.ref 20, .int v1, .int v2, .null] [] mem Q := by
  refine am_iload_n (pc := 4) 2 dX3_countFaults_4 rfl rfl ?_
  refine am_aload_n (pc := 5) 0 dX3_countFaults_5 rfl rfl ?_
  refine am_getR (pc := 6) (k := 0) cl3 sh20 (by decide) (by decide) f3_15 rfl dX3_countFaults_6 ?_
  refine am_getI (pc := 9) (k := 4) cl1 sh1 (by decide) (by decide) f3_41 rfl dX3_countFaults_9 ?_
  refine am_icmp_ge (pc := 12) 51 dX3_countFaults_12 (by decide) (fun c => ?_) (fun c => ?_)
  · replace h := h.1 c
    refine am_iload_n (pc := 51) 1 dX3_countFaults_51 rfl rfl ?_
    exact am_ireturn rfl dX3_countFaults_52 h
  · replace h := h.2 c
    refine am_iload_n (pc := 15) 1 dX3_countFaults_15 rfl rfl ?_
    refine am_aload_n (pc := 16) 0 dX3_countFaults_16 rfl rfl ?_
    refine am_iload_n (pc := 17) 2 dX3_countFaults_17 rfl rfl ?_
    refine am_callV (pc := 18) m3_ownFault D 1 [.int v2] (rest := [.int v1]) ok3_ownFault (by omega) rfl rfl sh20 (by decide) rfl l3_47 in3_ownFault se3_ownFault (Nat.le_of_ble_eq_true rfl) dX3_countFaults_18 ?_
    refine am_Ci.use h (fun r_1 mem_1 h => ?_)
    show am_J m3_countFaults (D + 1) 21 [.ref 20, .int v1, .int v2, .null] [.int r_1, .int v1] mem_1 Q
    refine am_iadd (pc := 21) dX3_countFaults_21 ?_
    refine am_istoreE_n (pc := 22) 1 (loc' := [.ref 20, .int (v1 + r_1), .int v2, .null]) dX3_countFaults_22 rfl (by decide) rfl rfl ?_
    refine am_iconst (pc := 23) (v := 0) dX3_countFaults_23 rfl ?_
    refine am_istoreE_n (pc := 24) 3 (loc' := [.ref 20, .int (v1 + r_1), .int v2, .int 0]) dX3_countFaults_24 rfl (by decide) rfl rfl ?_
    exact h
set_option maxRecDepth 100000 in
set_option maxHeartbeats 4000000 in
theorem sg3_countFaults_25 {D : Nat} {mem : am_Mem} {Q : Option Value → am_Mem → Prop} {v1 : Int32} {v2 : Int32} {v3 : Int32} (h : (v2 ≤ v3 → am_J m3_countFaults (D + 1) 4 [.ref 20, .int v1, .int (v2 + 1), .null] [] mem Q) ∧ (¬ v2 ≤ v3 → am_Ci m3_sharedFault D [.ref 20, .int v2, .int v3] mem (fun r_1 mem_1 => am_J m3_countFaults (D + 1) 25 [.ref 20, .int (v1 + r_1), .int v2, .int (v3 + 1)] [] mem_1 Q))) : am_J m3_countFaults (D + 1) 25 [.ref 20, .int v1, .int v2, .int v3] [] mem Q := by
  refine am_iload_n (pc := 25) 3 dX3_countFaults_25 rfl rfl ?_
  refine am_iload_n (pc := 26) 2 dX3_countFaults_26 rfl rfl ?_
  refine am_icmp_ge (pc := 27) 45 dX3_countFaults_27 (by decide) (fun c => ?_) (fun c => ?_)
  · replace h := h.1 c
    refine am_iincE (pc := 45) (v := 1) (loc' := [.ref 20, .int v1, .int (v2 + 1), .int v3]) dX3_countFaults_45 rfl rfl (by decide) rfl rfl ?_
    refine am_goto (pc := 48) 4 dX3_countFaults_48 (by decide) ?_
    exact am_drop [3] h
  · replace h := h.2 c
    refine am_iload_n (pc := 30) 1 dX3_countFaults_30 rfl rfl ?_
    refine am_aload_n (pc := 31) 0 dX3_countFaults_31 rfl rfl ?_
    refine am_iload_n (pc := 32) 2 dX3_countFaults_32 rfl rfl ?_
    refine am_iload_n (pc := 33) 3 dX3_countFaults_33 rfl rfl ?_
    refine am_callV (pc := 34) m3_sharedFault D 2 [.int v2, .int v3] (rest := [.int v1]) ok3_sharedFault (by omega) rfl rfl sh20 (by decide) rfl l3_51 in3_sharedFault se3_sharedFault (Nat.le_of_ble_eq_true rfl) dX3_countFaults_34 ?_
    refine am_Ci.use h (fun r_1 mem_1 h => ?_)
    show am_J m3_countFaults (D + 1) 37 [.ref 20, .int v1, .int v2, .int v3] [.int r_1, .int v1] mem_1 Q
    refine am_iadd (pc := 37) dX3_countFaults_37 ?_
    refine am_istoreE_n (pc := 38) 1 (loc' := [.ref 20, .int (v1 + r_1), .int v2, .int v3]) dX3_countFaults_38 rfl (by decide) rfl rfl ?_
    refine am_iincE (pc := 39) (v := 1) (loc' := [.ref 20, .int (v1 + r_1), .int v2, .int (v3 + 1)]) dX3_countFaults_39 rfl rfl (by decide) rfl rfl ?_
    refine am_goto (pc := 42) 25 dX3_countFaults_42 (by decide) ?_
    exact h
set_option maxRecDepth 100000 in
set_option maxHeartbeats 4000000 in
theorem sg3_mendMost_0 {D : Nat} {mem : am_Mem} {Q : Option Value → am_Mem → Prop}  (h : am_Ci m3_countFaults D [.ref 20] mem (fun r_1 mem_1 => am_J m3_mendMost (D + 1) 14 [.ref 20, .int r_1, .int ((-9)), .int ((-9)), .int 0, .null, .null, .null] [] mem_1 Q)) : am_J m3_mendMost (D + 1) 0 [.ref 20, .null, .null, .null, .null, .null, .null, .null] [] mem Q := by
  refine am_aload_n (pc := 0) 0 dX3_mendMost_0 rfl rfl ?_
  refine am_callV (pc := 1) m3_countFaults D 0 [] (rest := []) ok3_countFaults (by omega) rfl rfl sh20 (by decide) rfl l3_54 in3_countFaults se3_countFaults (Nat.le_of_ble_eq_true rfl) dX3_mendMost_1 ?_
  refine am_Ci.use h (fun r_1 mem_1 h => ?_)
  show am_J m3_mendMost (D + 1) 4 [.ref 20, .null, .null, .null, .null, .null, .null, .null] [.int r_1] mem_1 Q
  refine am_istoreE_n (pc := 4) 1 (loc' := [.ref 20, .int r_1, .null, .null, .null, .null, .null, .null]) dX3_mendMost_4 rfl (by decide) rfl rfl ?_
  refine am_bipush (pc := 5) (v := -9) dX3_mendMost_5 rfl ?_
  refine am_istoreE_n (pc := 7) 2 (loc' := [.ref 20, .int r_1, .int ((-9)), .null, .null, .null, .null, .null]) dX3_mendMost_7 rfl (by decide) rfl rfl ?_
  refine am_bipush (pc := 8) (v := -9) dX3_mendMost_8 rfl ?_
  refine am_istoreE_n (pc := 10) 3 (loc' := [.ref 20, .int r_1, .int ((-9)), .int ((-9)), .null, .null, .null, .null]) dX3_mendMost_10 rfl (by decide) rfl rfl ?_
  refine am_iconst (pc := 11) (v := 0) dX3_mendMost_11 rfl ?_
  refine am_istoreE (pc := 12) (loc' := [.ref 20, .int r_1, .int ((-9)), .int ((-9)), .int 0, .null, .null, .null]) dX3_mendMost_12 (by decide) rfl rfl ?_
  exact h
set_option maxRecDepth 100000 in
set_option maxHeartbeats 4000000 in
theorem sg3_mendMost_14 {D : Nat} {mem : am_Mem} {Q : Option Value → am_Mem → Prop} {v1 : Int32} {v2 : Int32} {v3 : Int32} {v4 : Int32} (h : ((mem 1 4) ≤ v4 → (¬ v2 = (-9) → vp_in v2 8 ∧ (Q (some (.int (((10 : Int32) * v2) + v3))) (am_set mem 21 v2.toNatClampNeg v3))) ∧ (v2 = (-9) → Q (some (.int (-9))) mem)) ∧ (¬ (mem 1 4) ≤ v4 → vp_in v4 8 ∧ (am_J m3_mendMost (D + 1) 38 [.ref 20, .int v1, .int v2, .int v3, .int v4, .int (mem 21 v4.toNatClampNeg), .int 0, .null] [] mem Q))) : am_J m3_mendMost (D + 1) 14 [.ref 20, .int v1, .int v2, .int v3, .int v4, .null, .null, .null] [] mem Q := by
  refine am_iload (pc := 14) dX3_mendMost_14 rfl ?_
  refine am_aload_n (pc := 16) 0 dX3_mendMost_16 rfl rfl ?_
  refine am_getR (pc := 17) (k := 0) cl3 sh20 (by decide) (by decide) f3_15 rfl dX3_mendMost_17 ?_
  refine am_getI (pc := 20) (k := 4) cl1 sh1 (by decide) (by decide) f3_41 rfl dX3_mendMost_20 ?_
  refine am_icmp_ge (pc := 23) 102 dX3_mendMost_23 (by decide) (fun c => ?_) (fun c => ?_)
  · replace h := h.1 c
    refine am_iload_n (pc := 102) 2 dX3_mendMost_102 rfl rfl ?_
    refine am_bipush (pc := 103) (v := -9) dX3_mendMost_103 rfl ?_
    refine am_icmp_ne (pc := 105) 111 dX3_mendMost_105 (by decide) (fun c => ?_) (fun c => ?_)
    · replace h := h.1 c
      refine am_aload_n (pc := 111) 0 dX3_mendMost_111 rfl rfl ?_
      refine am_getR (pc := 112) (k := 2) cl3 sh20 (by decide) (by decide) f3_9 rfl dX3_mendMost_112 ?_
      refine am_iload_n (pc := 115) 2 dX3_mendMost_115 rfl rfl ?_
      refine am_iload_n (pc := 116) 3 dX3_mendMost_116 rfl rfl ?_
      refine am_iast (pc := 117) sh21 (by decide) h.1 dX3_mendMost_117 ?_
      replace h := h.2
      refine am_bipush (pc := 118) (v := 10) dX3_mendMost_118 rfl ?_
      refine am_iload_n (pc := 120) 2 dX3_mendMost_120 rfl rfl ?_
      refine am_imul (pc := 121) dX3_mendMost_121 ?_
      refine am_iload_n (pc := 122) 3 dX3_mendMost_122 rfl rfl ?_
      refine am_iadd (pc := 123) dX3_mendMost_123 ?_
      exact am_ireturn rfl dX3_mendMost_124 h
    · replace h := h.2 c
      refine am_bipush (pc := 108) (v := -9) dX3_mendMost_108 rfl ?_
      exact am_ireturn rfl dX3_mendMost_110 h
  · replace h := h.2 c
    refine am_aload_n (pc := 26) 0 dX3_mendMost_26 rfl rfl ?_
    refine am_getR (pc := 27) (k := 2) cl3 sh20 (by decide) (by decide) f3_9 rfl dX3_mendMost_27 ?_
    refine am_iload (pc := 30) dX3_mendMost_30 rfl ?_
    refine am_iald (pc := 32) sh21 (by decide) h.1 dX3_mendMost_32 ?_
    replace h := h.2
    refine am_istoreE (pc := 33) (loc' := [.ref 20, .int v1, .int v2, .int v3, .int v4, .int (mem 21 v4.toNatClampNeg), .null, .null]) dX3_mendMost_33 (by decide) rfl rfl ?_
    refine am_iconst (pc := 35) (v := 0) dX3_mendMost_35 rfl ?_
    refine am_istoreE (pc := 36) (loc' := [.ref 20, .int v1, .int v2, .int v3, .int v4, .int (mem 21 v4.toNatClampNeg), .int 0, .null]) dX3_mendMost_36 (by decide) rfl rfl ?_
    exact h
set_option maxRecDepth 100000 in
set_option maxHeartbeats 4000000 in
theorem sg3_mendMost_38 {D : Nat} {mem : am_Mem} {Q : Option Value → am_Mem → Prop} {v1 : Int32} {v2 : Int32} {v3 : Int32} {v4 : Int32} {v5 : Int32} {v6 : Int32} (h : (4 ≤ v6 → am_J m3_mendMost (D + 1) 87 [.ref 20, .int v1, .int v2, .int v3, .int v4, .int v5, .null, .null] [] mem Q) ∧ (¬ 4 ≤ v6 → (v5 = (-9) → am_J m3_mendMost (D + 1) 87 [.ref 20, .int v1, .int v2, .int v3, .int v4, .int v5, .null, .null] [] mem Q) ∧ (¬ v5 = (-9) → vp_in v4 8 ∧ (am_Ci m3_countFaults D [.ref 20] (am_set mem 21 v4.toNatClampNeg v6) (fun r_1 mem_1 => (v1 ≤ r_1 → am_J m3_mendMost (D + 1) 81 [.ref 20, .int v1, .int v2, .int v3, .int v4, .int v5, .int v6, .null] [] mem_1 Q) ∧ (¬ v1 ≤ r_1 → am_J m3_mendMost (D + 1) 81 [.ref 20, .int r_1, .int v4, .int v6, .int v4, .int v5, .int v6, .null] [] mem_1 Q)))))) : am_J m3_mendMost (D + 1) 38 [.ref 20, .int v1, .int v2, .int v3, .int v4, .int v5, .int v6, .null] [] mem Q := by
  refine am_iload (pc := 38) dX3_mendMost_38 rfl ?_
  refine am_iconst (pc := 40) (v := 4) dX3_mendMost_40 rfl ?_
  refine am_icmp_ge (pc := 41) 87 dX3_mendMost_41 (by decide) (fun c => ?_) (fun c => ?_)
  · replace h := h.1 c
    exact am_drop [6] h
  · replace h := h.2 c
    refine am_iload (pc := 44) dX3_mendMost_44 rfl ?_
    refine am_bipush (pc := 46) (v := -9) dX3_mendMost_46 rfl ?_
    refine am_icmp_eq (pc := 48) 87 dX3_mendMost_48 (by decide) (fun c => ?_) (fun c => ?_)
    · replace h := h.1 c
      exact am_drop [6] h
    · replace h := h.2 c
      refine am_aload_n (pc := 51) 0 dX3_mendMost_51 rfl rfl ?_
      refine am_getR (pc := 52) (k := 2) cl3 sh20 (by decide) (by decide) f3_9 rfl dX3_mendMost_52 ?_
      refine am_iload (pc := 55) dX3_mendMost_55 rfl ?_
      refine am_iload (pc := 57) dX3_mendMost_57 rfl ?_
      refine am_iast (pc := 59) sh21 (by decide) h.1 dX3_mendMost_59 ?_
      replace h := h.2
      refine am_aload_n (pc := 60) 0 dX3_mendMost_60 rfl rfl ?_
      refine am_callV (pc := 61) m3_countFaults D 0 [] (rest := []) ok3_countFaults (by omega) rfl rfl sh20 (by decide) rfl l3_54 in3_countFaults se3_countFaults (Nat.le_of_ble_eq_true rfl) dX3_mendMost_61 ?_
      refine am_Ci.use h (fun r_1 mem_1 h => ?_)
      show am_J m3_mendMost (D + 1) 64 [.ref 20, .int v1, .int v2, .int v3, .int v4, .int v5, .int v6, .null] [.int r_1] mem_1 Q
      refine am_istoreE (pc := 64) (loc' := [.ref 20, .int v1, .int v2, .int v3, .int v4, .int v5, .int v6, .int r_1]) dX3_mendMost_64 (by decide) rfl rfl ?_
      refine am_iload (pc := 66) dX3_mendMost_66 rfl ?_
      refine am_iload_n (pc := 68) 1 dX3_mendMost_68 rfl rfl ?_
      refine am_icmp_ge (pc := 69) 81 dX3_mendMost_69 (by decide) (fun c => ?_) (fun c => ?_)
      · replace h := h.1 c
        exact am_drop [7] h
      · replace h := h.2 c
        refine am_iload (pc := 72) dX3_mendMost_72 rfl ?_
        refine am_istoreE_n (pc := 74) 1 (loc' := [.ref 20, .int r_1, .int v2, .int v3, .int v4, .int v5, .int v6, .int r_1]) dX3_mendMost_74 rfl (by decide) rfl rfl ?_
        refine am_iload (pc := 75) dX3_mendMost_75 rfl ?_
        refine am_istoreE_n (pc := 77) 2 (loc' := [.ref 20, .int r_1, .int v4, .int v3, .int v4, .int v5, .int v6, .int r_1]) dX3_mendMost_77 rfl (by decide) rfl rfl ?_
        refine am_iload (pc := 78) dX3_mendMost_78 rfl ?_
        refine am_istoreE_n (pc := 80) 3 (loc' := [.ref 20, .int r_1, .int v4, .int v6, .int v4, .int v5, .int v6, .int r_1]) dX3_mendMost_80 rfl (by decide) rfl rfl ?_
        exact am_drop [7] h
set_option maxRecDepth 100000 in
set_option maxHeartbeats 4000000 in
theorem sg3_mendMost_81 {D : Nat} {mem : am_Mem} {Q : Option Value → am_Mem → Prop} {v1 : Int32} {v2 : Int32} {v3 : Int32} {v4 : Int32} {v5 : Int32} {v6 : Int32} (h : am_J m3_mendMost (D + 1) 38 [.ref 20, .int v1, .int v2, .int v3, .int v4, .int v5, .int (v6 + 1), .null] [] mem Q) : am_J m3_mendMost (D + 1) 81 [.ref 20, .int v1, .int v2, .int v3, .int v4, .int v5, .int v6, .null] [] mem Q := by
  refine am_iincE (pc := 81) (v := 1) (loc' := [.ref 20, .int v1, .int v2, .int v3, .int v4, .int v5, .int (v6 + 1), .null]) dX3_mendMost_81 rfl rfl (by decide) rfl rfl ?_
  refine am_goto (pc := 84) 38 dX3_mendMost_84 (by decide) ?_
  exact h
set_option maxRecDepth 100000 in
set_option maxHeartbeats 4000000 in
theorem sg3_mendMost_87 {D : Nat} {mem : am_Mem} {Q : Option Value → am_Mem → Prop} {v1 : Int32} {v2 : Int32} {v3 : Int32} {v4 : Int32} {v5 : Int32} (h : vp_in v4 8 ∧ (am_J m3_mendMost (D + 1) 14 [.ref 20, .int v1, .int v2, .int v3, .int (v4 + 1), .null, .null, .null] [] (am_set mem 21 v4.toNatClampNeg v5) Q)) : am_J m3_mendMost (D + 1) 87 [.ref 20, .int v1, .int v2, .int v3, .int v4, .int v5, .null, .null] [] mem Q := by
  refine am_aload_n (pc := 87) 0 dX3_mendMost_87 rfl rfl ?_
  refine am_getR (pc := 88) (k := 2) cl3 sh20 (by decide) (by decide) f3_9 rfl dX3_mendMost_88 ?_
  refine am_iload (pc := 91) dX3_mendMost_91 rfl ?_
  refine am_iload (pc := 93) dX3_mendMost_93 rfl ?_
  refine am_iast (pc := 95) sh21 (by decide) h.1 dX3_mendMost_95 ?_
  replace h := h.2
  refine am_iincE (pc := 96) (v := 1) (loc' := [.ref 20, .int v1, .int v2, .int v3, .int (v4 + 1), .int v5, .null, .null]) dX3_mendMost_96 rfl rfl (by decide) rfl rfl ?_
  refine am_goto (pc := 99) 14 dX3_mendMost_99 (by decide) ?_
  exact am_drop [5] h
set_option maxRecDepth 100000 in
set_option maxHeartbeats 4000000 in
theorem sg4_grow_0 {D : Nat} {mem : am_Mem} {Q : Option Value → am_Mem → Prop}  (h : am_Cv m4_sortByWorth D [.ref 22] mem (fun mem_1 => am_J m4_grow (D + 1) 6 [.ref 22, .int 0, .null, .null] [] mem_1 Q)) : am_J m4_grow (D + 1) 0 [.ref 22, .null, .null, .null] [] mem Q := by
  refine am_aload_n (pc := 0) 0 dX4_grow_0 rfl rfl ?_
  refine am_callV (pc := 1) m4_sortByWorth D 0 [] (rest := []) ok4_sortByWorth (by omega) rfl rfl sh22 (by decide) rfl l4_29 in4_sortByWorth se4_sortByWorth (Nat.le_of_ble_eq_true rfl) dX4_grow_1 ?_
  refine am_Cv.use h (fun mem_1 h => ?_)
  show am_J m4_grow (D + 1) 4 [.ref 22, .null, .null, .null] [] mem_1 Q
  refine am_iconst (pc := 4) (v := 0) dX4_grow_4 rfl ?_
  refine am_istoreE_n (pc := 5) 1 (loc' := [.ref 22, .int 0, .null, .null]) dX4_grow_5 rfl (by decide) rfl rfl ?_
  exact h
set_option maxRecDepth 100000 in
set_option maxHeartbeats 4000000 in
theorem sg4_grow_6 {D : Nat} {mem : am_Mem} {Q : Option Value → am_Mem → Prop} {v1 : Int32} (h : ((mem 1 4) ≤ v1 → am_J m4_grow (D + 1) 41 [.ref 22, .int 0, .null, .null] [] mem Q) ∧ (¬ (mem 1 4) ≤ v1 → vp_in v1 8 ∧ (vp_in v1 8 ∧ (am_J m4_grow (D + 1) 6 [.ref 22, .int (v1 + 1), .null, .null] [] (am_set (am_set mem 23 v1.toNatClampNeg (-9)) 24 v1.toNatClampNeg (-9)) Q)))) : am_J m4_grow (D + 1) 6 [.ref 22, .int v1, .null, .null] [] mem Q := by
  refine am_iload_n (pc := 6) 1 dX4_grow_6 rfl rfl ?_
  refine am_aload_n (pc := 7) 0 dX4_grow_7 rfl rfl ?_
  refine am_getR (pc := 8) (k := 0) cl4 sh22 (by decide) (by decide) f4_21 rfl dX4_grow_8 ?_
  refine am_getI (pc := 11) (k := 4) cl1 sh1 (by decide) (by decide) f4_32 rfl dX4_grow_11 ?_
  refine am_icmp_ge (pc := 14) 39 dX4_grow_14 (by decide) (fun c => ?_) (fun c => ?_)
  · replace h := h.1 c
    refine am_iconst (pc := 39) (v := 0) dX4_grow_39 rfl ?_
    refine am_istoreE_n (pc := 40) 1 (loc' := [.ref 22, .int 0, .null, .null]) dX4_grow_40 rfl (by decide) rfl rfl ?_
    exact h
  · replace h := h.2 c
    refine am_aload_n (pc := 17) 0 dX4_grow_17 rfl rfl ?_
    refine am_getR (pc := 18) (k := 2) cl4 sh22 (by decide) (by decide) f4_9 rfl dX4_grow_18 ?_
    refine am_iload_n (pc := 21) 1 dX4_grow_21 rfl rfl ?_
    refine am_bipush (pc := 22) (v := -9) dX4_grow_22 rfl ?_
    refine am_iast (pc := 24) sh23 (by decide) h.1 dX4_grow_24 ?_
    replace h := h.2
    refine am_aload_n (pc := 25) 0 dX4_grow_25 rfl rfl ?_
    refine am_getR (pc := 26) (k := 3) cl4 sh22 (by decide) (by decide) f4_15 rfl dX4_grow_26 ?_
    refine am_iload_n (pc := 29) 1 dX4_grow_29 rfl rfl ?_
    refine am_bipush (pc := 30) (v := -9) dX4_grow_30 rfl ?_
    refine am_iast (pc := 32) sh24 (by decide) h.1 dX4_grow_32 ?_
    replace h := h.2
    refine am_iincE (pc := 33) (v := 1) (loc' := [.ref 22, .int (v1 + 1), .null, .null]) dX4_grow_33 rfl rfl (by decide) rfl rfl ?_
    refine am_goto (pc := 36) 6 dX4_grow_36 (by decide) ?_
    exact h
set_option maxRecDepth 100000 in
set_option maxHeartbeats 4000000 in
theorem sg4_grow_41 {D : Nat} {mem : am_Mem} {Q : Option Value → am_Mem → Prop} {v1 : Int32} (h : (6 ≤ v1 → Q none mem) ∧ (¬ 6 ≤ v1 → am_Cv m0_measure D [.ref 8, .int (mem 1 2), .int (v1 + (1 : Int32))] mem (fun mem_1 => am_J m4_grow (D + 1) 66 [.ref 22, .int v1, .int 0, .null] [] mem_1 Q))) : am_J m4_grow (D + 1) 41 [.ref 22, .int v1, .null, .null] [] mem Q := by
  refine am_iload_n (pc := 41) 1 dX4_grow_41 rfl rfl ?_
  refine am_bipush (pc := 42) (v := 6) dX4_grow_42 rfl ?_
  refine am_icmp_ge (pc := 44) 113 dX4_grow_44 (by decide) (fun c => ?_) (fun c => ?_)
  · replace h := h.1 c
    exact am_return rfl dX4_grow_113 h
  · replace h := h.2 c
    refine am_aload_n (pc := 47) 0 dX4_grow_47 rfl rfl ?_
    refine am_getR (pc := 48) (k := 1) cl4 sh22 (by decide) (by decide) f4_25 rfl dX4_grow_48 ?_
    refine am_aload_n (pc := 51) 0 dX4_grow_51 rfl rfl ?_
    refine am_getR (pc := 52) (k := 0) cl4 sh22 (by decide) (by decide) f4_21 rfl dX4_grow_52 ?_
    refine am_getI (pc := 55) (k := 2) cl1 sh1 (by decide) (by decide) f4_38 rfl dX4_grow_55 ?_
    refine am_iload_n (pc := 58) 1 dX4_grow_58 rfl rfl ?_
    refine am_iconst (pc := 59) (v := 1) dX4_grow_59 rfl ?_
    refine am_iadd (pc := 60) dX4_grow_60 ?_
    refine am_callV (pc := 61) m0_measure D 2 [.int (mem 1 2), .int (v1 + (1 : Int32))] (rest := []) ok0_measure (by omega) rfl rfl sh8 (by decide) rfl l4_41 in0_measure se0_measure (Nat.le_of_ble_eq_true rfl) dX4_grow_61 ?_
    refine am_Cv.use h (fun mem_1 h => ?_)
    show am_J m4_grow (D + 1) 64 [.ref 22, .int v1, .null, .null] [] mem_1 Q
    refine am_iconst (pc := 64) (v := 0) dX4_grow_64 rfl ?_
    refine am_istoreE_n (pc := 65) 2 (loc' := [.ref 22, .int v1, .int 0, .null]) dX4_grow_65 rfl (by decide) rfl rfl ?_
    exact h
set_option maxRecDepth 100000 in
set_option maxHeartbeats 4000000 in
theorem sg4_grow_66 {D : Nat} {mem : am_Mem} {Q : Option Value → am_Mem → Prop} {v1 : Int32} {v2 : Int32} (h : ((mem 1 4) ≤ v2 → am_J m4_grow (D + 1) 41 [.ref 22, .int (v1 + 1), .null, .null] [] mem Q) ∧ (¬ (mem 1 4) ≤ v2 → vp_in v2 8 ∧ (vp_in (mem 25 v2.toNatClampNeg) 8 ∧ ((¬ (mem 23 (mem 25 v2.toNatClampNeg).toNatClampNeg) = (-9) → am_J m4_grow (D + 1) 101 [.ref 22, .int v1, .int v2, .null] [] mem Q) ∧ ((mem 23 (mem 25 v2.toNatClampNeg).toNatClampNeg) = (-9) → am_Cv m4_show D [.ref 22, .int (mem 25 v2.toNatClampNeg), .int v1] mem (fun mem_1 => am_J m4_grow (D + 1) 101 [.ref 22, .int v1, .int v2, .null] [] mem_1 Q)))))) : am_J m4_grow (D + 1) 66 [.ref 22, .int v1, .int v2, .null] [] mem Q := by
  refine am_iload_n (pc := 66) 2 dX4_grow_66 rfl rfl ?_
  refine am_aload_n (pc := 67) 0 dX4_grow_67 rfl rfl ?_
  refine am_getR (pc := 68) (k := 0) cl4 sh22 (by decide) (by decide) f4_21 rfl dX4_grow_68 ?_
  refine am_getI (pc := 71) (k := 4) cl1 sh1 (by decide) (by decide) f4_32 rfl dX4_grow_71 ?_
  refine am_icmp_ge (pc := 74) 107 dX4_grow_74 (by decide) (fun c => ?_) (fun c => ?_)
  · replace h := h.1 c
    refine am_iincE (pc := 107) (v := 1) (loc' := [.ref 22, .int (v1 + 1), .int v2, .null]) dX4_grow_107 rfl rfl (by decide) rfl rfl ?_
    refine am_goto (pc := 110) 41 dX4_grow_110 (by decide) ?_
    exact am_drop [2] h
  · replace h := h.2 c
    refine am_aload_n (pc := 77) 0 dX4_grow_77 rfl rfl ?_
    refine am_getR (pc := 78) (k := 4) cl4 sh22 (by decide) (by decide) f4_18 rfl dX4_grow_78 ?_
    refine am_iload_n (pc := 81) 2 dX4_grow_81 rfl rfl ?_
    refine am_iald (pc := 82) sh25 (by decide) h.1 dX4_grow_82 ?_
    replace h := h.2
    refine am_istoreE_n (pc := 83) 3 (loc' := [.ref 22, .int v1, .int v2, .int (mem 25 v2.toNatClampNeg)]) dX4_grow_83 rfl (by decide) rfl rfl ?_
    refine am_aload_n (pc := 84) 0 dX4_grow_84 rfl rfl ?_
    refine am_getR (pc := 85) (k := 2) cl4 sh22 (by decide) (by decide) f4_9 rfl dX4_grow_85 ?_
    refine am_iload_n (pc := 88) 3 dX4_grow_88 rfl rfl ?_
    refine am_iald (pc := 89) sh23 (by decide) h.1 dX4_grow_89 ?_
    replace h := h.2
    refine am_bipush (pc := 90) (v := -9) dX4_grow_90 rfl ?_
    refine am_icmp_ne (pc := 92) 101 dX4_grow_92 (by decide) (fun c => ?_) (fun c => ?_)
    · replace h := h.1 c
      exact am_drop [3] h
    · replace h := h.2 c
      refine am_aload_n (pc := 95) 0 dX4_grow_95 rfl rfl ?_
      refine am_iload_n (pc := 96) 3 dX4_grow_96 rfl rfl ?_
      refine am_iload_n (pc := 97) 1 dX4_grow_97 rfl rfl ?_
      refine am_callV (pc := 98) m4_show D 2 [.int (mem 25 v2.toNatClampNeg), .int v1] (rest := []) ok4_show (by omega) rfl rfl sh22 (by decide) rfl l4_47 in4_show se4_show (Nat.le_of_ble_eq_true rfl) dX4_grow_98 ?_
      refine am_Cv.use h (fun mem_1 h => ?_)
      show am_J m4_grow (D + 1) 101 [.ref 22, .int v1, .int v2, .int (mem 25 v2.toNatClampNeg)] [] mem_1 Q
      exact am_drop [3] h
set_option maxRecDepth 100000 in
set_option maxHeartbeats 4000000 in
theorem sg4_grow_101 {D : Nat} {mem : am_Mem} {Q : Option Value → am_Mem → Prop} {v1 : Int32} {v2 : Int32} (h : am_J m4_grow (D + 1) 66 [.ref 22, .int v1, .int (v2 + 1), .null] [] mem Q) : am_J m4_grow (D + 1) 101 [.ref 22, .int v1, .int v2, .null] [] mem Q := by
  refine am_iincE (pc := 101) (v := 1) (loc' := [.ref 22, .int v1, .int (v2 + 1), .null]) dX4_grow_101 rfl rfl (by decide) rfl rfl ?_
  refine am_goto (pc := 104) 66 dX4_grow_104 (by decide) ?_
  exact h
set_option maxRecDepth 100000 in
set_option maxHeartbeats 4000000 in
theorem sg4_sortByWorth_0 {D : Nat} {mem : am_Mem} {Q : Option Value → am_Mem → Prop}  (h : am_J m4_sortByWorth D 2 [.ref 22, .int 0, .null] [] mem Q) : am_J m4_sortByWorth D 0 [.ref 22, .null, .null] [] mem Q := by
  refine am_iconst (pc := 0) (v := 0) dX4_sortByWorth_0 rfl ?_
  refine am_istoreE_n (pc := 1) 1 (loc' := [.ref 22, .int 0, .null]) dX4_sortByWorth_1 rfl (by decide) rfl rfl ?_
  exact h
set_option maxRecDepth 100000 in
set_option maxHeartbeats 4000000 in
theorem sg4_sortByWorth_2 {D : Nat} {mem : am_Mem} {Q : Option Value → am_Mem → Prop} {v1 : Int32} (h : ((mem 1 4) ≤ v1 → Q none mem) ∧ (¬ (mem 1 4) ≤ v1 → am_J m4_sortByWorth D 15 [.ref 22, .int v1, .int v1] [] mem Q)) : am_J m4_sortByWorth D 2 [.ref 22, .int v1, .null] [] mem Q := by
  refine am_iload_n (pc := 2) 1 dX4_sortByWorth_2 rfl rfl ?_
  refine am_aload_n (pc := 3) 0 dX4_sortByWorth_3 rfl rfl ?_
  refine am_getR (pc := 4) (k := 0) cl4 sh22 (by decide) (by decide) f4_21 rfl dX4_sortByWorth_4 ?_
  refine am_getI (pc := 7) (k := 4) cl1 sh1 (by decide) (by decide) f4_32 rfl dX4_sortByWorth_7 ?_
  refine am_icmp_ge (pc := 10) 80 dX4_sortByWorth_10 (by decide) (fun c => ?_) (fun c => ?_)
  · replace h := h.1 c
    exact am_return rfl dX4_sortByWorth_80 h
  · replace h := h.2 c
    refine am_iload_n (pc := 13) 1 dX4_sortByWorth_13 rfl rfl ?_
    refine am_istoreE_n (pc := 14) 2 (loc' := [.ref 22, .int v1, .int v1]) dX4_sortByWorth_14 rfl (by decide) rfl rfl ?_
    exact h
set_option maxRecDepth 100000 in
set_option maxHeartbeats 4000000 in
theorem sg4_sortByWorth_15 {D : Nat} {mem : am_Mem} {Q : Option Value → am_Mem → Prop} {v1 : Int32} {v2 : Int32} (h : (v2 ≤ 0 → am_J m4_sortByWorth D 67 [.ref 22, .int v1, .int v2] [] mem Q) ∧ (¬ v2 ≤ 0 → vp_in (v2 - (1 : Int32)) 8 ∧ (vp_in (mem 25 (v2 - (1 : Int32)).toNatClampNeg) 8 ∧ (vp_in v1 8 ∧ (((mem 6 v1.toNatClampNeg) ≤ (mem 6 (mem 25 (v2 - (1 : Int32)).toNatClampNeg).toNatClampNeg) → am_J m4_sortByWorth D 67 [.ref 22, .int v1, .int v2] [] mem Q) ∧ (¬ (mem 6 v1.toNatClampNeg) ≤ (mem 6 (mem 25 (v2 - (1 : Int32)).toNatClampNeg).toNatClampNeg) → vp_in (v2 - (1 : Int32)) 8 ∧ (vp_in v2 8 ∧ (am_J m4_sortByWorth D 15 [.ref 22, .int v1, .int (v2 + (-1))] [] (am_set mem 25 v2.toNatClampNeg (mem 25 (v2 - (1 : Int32)).toNatClampNeg)) Q)))))))) : am_J m4_sortByWorth D 15 [.ref 22, .int v1, .int v2] [] mem Q := by
  refine am_iload_n (pc := 15) 2 dX4_sortByWorth_15 rfl rfl ?_
  refine am_if_le (pc := 16) 67 dX4_sortByWorth_16 (by decide) (fun c => ?_) (fun c => ?_)
  · replace h := h.1 c
    exact h
  · replace h := h.2 c
    refine am_aload_n (pc := 19) 0 dX4_sortByWorth_19 rfl rfl ?_
    refine am_getR (pc := 20) (k := 0) cl4 sh22 (by decide) (by decide) f4_21 rfl dX4_sortByWorth_20 ?_
    refine am_getR (pc := 23) (k := 9) cl1 sh1 (by decide) (by decide) f4_50 rfl dX4_sortByWorth_23 ?_
    refine am_aload_n (pc := 26) 0 dX4_sortByWorth_26 rfl rfl ?_
    refine am_getR (pc := 27) (k := 4) cl4 sh22 (by decide) (by decide) f4_18 rfl dX4_sortByWorth_27 ?_
    refine am_iload_n (pc := 30) 2 dX4_sortByWorth_30 rfl rfl ?_
    refine am_iconst (pc := 31) (v := 1) dX4_sortByWorth_31 rfl ?_
    refine am_isub (pc := 32) dX4_sortByWorth_32 ?_
    refine am_iald (pc := 33) sh25 (by decide) h.1 dX4_sortByWorth_33 ?_
    replace h := h.2
    refine am_iald (pc := 34) sh6 (by decide) h.1 dX4_sortByWorth_34 ?_
    replace h := h.2
    refine am_aload_n (pc := 35) 0 dX4_sortByWorth_35 rfl rfl ?_
    refine am_getR (pc := 36) (k := 0) cl4 sh22 (by decide) (by decide) f4_21 rfl dX4_sortByWorth_36 ?_
    refine am_getR (pc := 39) (k := 9) cl1 sh1 (by decide) (by decide) f4_50 rfl dX4_sortByWorth_39 ?_
    refine am_iload_n (pc := 42) 1 dX4_sortByWorth_42 rfl rfl ?_
    refine am_iald (pc := 43) sh6 (by decide) h.1 dX4_sortByWorth_43 ?_
    replace h := h.2
    refine am_icmp_ge (pc := 44) 67 dX4_sortByWorth_44 (by decide) (fun c => ?_) (fun c => ?_)
    · replace h := h.1 c
      exact h
    · replace h := h.2 c
      refine am_aload_n (pc := 47) 0 dX4_sortByWorth_47 rfl rfl ?_
      refine am_getR (pc := 48) (k := 4) cl4 sh22 (by decide) (by decide) f4_18 rfl dX4_sortByWorth_48 ?_
      refine am_iload_n (pc := 51) 2 dX4_sortByWorth_51 rfl rfl ?_
      refine am_aload_n (pc := 52) 0 dX4_sortByWorth_52 rfl rfl ?_
      refine am_getR (pc := 53) (k := 4) cl4 sh22 (by decide) (by decide) f4_18 rfl dX4_sortByWorth_53 ?_
      refine am_iload_n (pc := 56) 2 dX4_sortByWorth_56 rfl rfl ?_
      refine am_iconst (pc := 57) (v := 1) dX4_sortByWorth_57 rfl ?_
      refine am_isub (pc := 58) dX4_sortByWorth_58 ?_
      refine am_iald (pc := 59) sh25 (by decide) h.1 dX4_sortByWorth_59 ?_
      replace h := h.2
      refine am_iast (pc := 60) sh25 (by decide) h.1 dX4_sortByWorth_60 ?_
      replace h := h.2
      refine am_iincE (pc := 61) (v := -1) (loc' := [.ref 22, .int v1, .int (v2 + (-1))]) dX4_sortByWorth_61 rfl rfl (by decide) rfl rfl ?_
      refine am_goto (pc := 64) 15 dX4_sortByWorth_64 (by decide) ?_
      exact h
set_option maxRecDepth 100000 in
set_option maxHeartbeats 4000000 in
theorem sg4_sortByWorth_67 {D : Nat} {mem : am_Mem} {Q : Option Value → am_Mem → Prop} {v1 : Int32} {v2 : Int32} (h : vp_in v2 8 ∧ (am_J m4_sortByWorth D 2 [.ref 22, .int (v1 + 1), .null] [] (am_set mem 25 v2.toNatClampNeg v1) Q)) : am_J m4_sortByWorth D 67 [.ref 22, .int v1, .int v2] [] mem Q := by
  refine am_aload_n (pc := 67) 0 dX4_sortByWorth_67 rfl rfl ?_
  refine am_getR (pc := 68) (k := 4) cl4 sh22 (by decide) (by decide) f4_18 rfl dX4_sortByWorth_68 ?_
  refine am_iload_n (pc := 71) 2 dX4_sortByWorth_71 rfl rfl ?_
  refine am_iload_n (pc := 72) 1 dX4_sortByWorth_72 rfl rfl ?_
  refine am_iast (pc := 73) sh25 (by decide) h.1 dX4_sortByWorth_73 ?_
  replace h := h.2
  refine am_iincE (pc := 74) (v := 1) (loc' := [.ref 22, .int (v1 + 1), .int v2]) dX4_sortByWorth_74 rfl rfl (by decide) rfl rfl ?_
  refine am_goto (pc := 77) 2 dX4_sortByWorth_77 (by decide) ?_
  exact am_drop [2] h
set_option maxRecDepth 100000 in
set_option maxHeartbeats 4000000 in
theorem sg4_show_0 {D : Nat} {mem : am_Mem} {Q : Option Value → am_Mem → Prop} {v1 : Int32} {v2 : Int32} (h : am_J m4_show (D + 1) 2 [.ref 22, .int v1, .int v2, .int 0, .null] [] mem Q) : am_J m4_show (D + 1) 0 [.ref 22, .int v1, .int v2, .null, .null] [] mem Q := by
  refine am_iconst (pc := 0) (v := 0) dX4_show_0 rfl ?_
  refine am_istoreE_n (pc := 1) 3 (loc' := [.ref 22, .int v1, .int v2, .int 0, .null]) dX4_show_1 rfl (by decide) rfl rfl ?_
  exact h
set_option maxRecDepth 100000 in
set_option maxHeartbeats 4000000 in
theorem sg4_show_2 {D : Nat} {mem : am_Mem} {Q : Option Value → am_Mem → Prop} {v1 : Int32} {v2 : Int32} {v3 : Int32} (h : (4 ≤ v3 → Q none mem) ∧ (¬ 4 ≤ v3 → am_Ci m6_boxOf D [.int v1, .int v3] mem (fun r_1 mem_1 => am_Ci m0_isFree D [.ref 8, .int r_1] mem_1 (fun r_2 mem_2 => (r_2 = 0 → am_J m4_show (D + 1) 50 [.ref 22, .int v1, .int v2, .int v3, .null] [] mem_2 Q) ∧ (¬ r_2 = 0 → am_Ci m4_clashesWithShown D [.ref 22, .int r_1] mem_2 (fun r_3 mem_3 => (¬ r_3 = 0 → am_J m4_show (D + 1) 50 [.ref 22, .int v1, .int v2, .int v3, .null] [] mem_3 Q) ∧ (r_3 = 0 → vp_in v1 8 ∧ (vp_in v1 8 ∧ (Q none (am_set (am_set mem_3 23 v1.toNatClampNeg v2) 24 v1.toNatClampNeg v3)))))))))) : am_J m4_show (D + 1) 2 [.ref 22, .int v1, .int v2, .int v3, .null] [] mem Q := by
  refine am_iload_n (pc := 2) 3 dX4_show_2 rfl rfl ?_
  refine am_iconst (pc := 3) (v := 4) dX4_show_3 rfl ?_
  refine am_icmp_ge (pc := 4) 56 dX4_show_4 (by decide) (fun c => ?_) (fun c => ?_)
  · replace h := h.1 c
    exact am_return rfl dX4_show_56 h
  · replace h := h.2 c
    refine am_iload_n (pc := 7) 1 dX4_show_7 rfl rfl ?_
    refine am_iload_n (pc := 8) 3 dX4_show_8 rfl rfl ?_
    refine am_callN (pc := 9) m6_boxOf D 2 [.int v1, .int v3] (rest := []) ok6_boxOf (by omega) rfl rfl l4_53 st6_boxOf (Nat.le_of_ble_eq_true rfl) dX4_show_9 ?_
    refine am_Ci.use h (fun r_1 mem_1 h => ?_)
    show am_J m4_show (D + 1) 12 [.ref 22, .int v1, .int v2, .int v3, .null] [.int r_1] mem_1 Q
    refine am_istoreE (pc := 12) (loc' := [.ref 22, .int v1, .int v2, .int v3, .int r_1]) dX4_show_12 (by decide) rfl rfl ?_
    refine am_aload_n (pc := 14) 0 dX4_show_14 rfl rfl ?_
    refine am_getR (pc := 15) (k := 1) cl4 sh22 (by decide) (by decide) f4_25 rfl dX4_show_15 ?_
    refine am_iload (pc := 18) dX4_show_18 rfl ?_
    refine am_callV (pc := 20) m0_isFree D 1 [.int r_1] (rest := []) ok0_isFree (by omega) rfl rfl sh8 (by decide) rfl l4_57 in0_isFree se0_isFree (Nat.le_of_ble_eq_true rfl) dX4_show_20 ?_
    refine am_Ci.use h (fun r_2 mem_2 h => ?_)
    show am_J m4_show (D + 1) 23 [.ref 22, .int v1, .int v2, .int v3, .int r_1] [.int r_2] mem_2 Q
    refine am_if_eq (pc := 23) 50 dX4_show_23 (by decide) (fun c => ?_) (fun c => ?_)
    · replace h := h.1 c
      exact am_drop [4] h
    · replace h := h.2 c
      refine am_aload_n (pc := 26) 0 dX4_show_26 rfl rfl ?_
      refine am_iload (pc := 27) dX4_show_27 rfl ?_
      refine am_callV (pc := 29) m4_clashesWithShown D 1 [.int r_1] (rest := []) ok4_clashesWithShown (by omega) rfl rfl sh22 (by decide) rfl l4_61 in4_clashesWithShown se4_clashesWithShown (Nat.le_of_ble_eq_true rfl) dX4_show_29 ?_
      refine am_Ci.use h (fun r_3 mem_3 h => ?_)
      show am_J m4_show (D + 1) 32 [.ref 22, .int v1, .int v2, .int v3, .int r_1] [.int r_3] mem_3 Q
      refine am_if_ne (pc := 32) 50 dX4_show_32 (by decide) (fun c => ?_) (fun c => ?_)
      · replace h := h.1 c
        exact am_drop [4] h
      · replace h := h.2 c
        refine am_aload_n (pc := 35) 0 dX4_show_35 rfl rfl ?_
        refine am_getR (pc := 36) (k := 2) cl4 sh22 (by decide) (by decide) f4_9 rfl dX4_show_36 ?_
        refine am_iload_n (pc := 39) 1 dX4_show_39 rfl rfl ?_
        refine am_iload_n (pc := 40) 2 dX4_show_40 rfl rfl ?_
        refine am_iast (pc := 41) sh23 (by decide) h.1 dX4_show_41 ?_
        replace h := h.2
        refine am_aload_n (pc := 42) 0 dX4_show_42 rfl rfl ?_
        refine am_getR (pc := 43) (k := 3) cl4 sh22 (by decide) (by decide) f4_15 rfl dX4_show_43 ?_
        refine am_iload_n (pc := 46) 1 dX4_show_46 rfl rfl ?_
        refine am_iload_n (pc := 47) 3 dX4_show_47 rfl rfl ?_
        refine am_iast (pc := 48) sh24 (by decide) h.1 dX4_show_48 ?_
        replace h := h.2
        exact am_return rfl dX4_show_49 h
set_option maxRecDepth 100000 in
set_option maxHeartbeats 4000000 in
theorem sg4_show_50 {D : Nat} {mem : am_Mem} {Q : Option Value → am_Mem → Prop} {v1 : Int32} {v2 : Int32} {v3 : Int32} (h : am_J m4_show (D + 1) 2 [.ref 22, .int v1, .int v2, .int (v3 + 1), .null] [] mem Q) : am_J m4_show (D + 1) 50 [.ref 22, .int v1, .int v2, .int v3, .null] [] mem Q := by
  refine am_iincE (pc := 50) (v := 1) (loc' := [.ref 22, .int v1, .int v2, .int (v3 + 1), .null]) dX4_show_50 rfl rfl (by decide) rfl rfl ?_
  refine am_goto (pc := 53) 2 dX4_show_53 (by decide) ?_
  exact h
set_option maxRecDepth 100000 in
set_option maxHeartbeats 4000000 in
theorem sg4_clashesWithShown_0 {D : Nat} {mem : am_Mem} {Q : Option Value → am_Mem → Prop} {v1 : Int32} (h : am_J m4_clashesWithShown (D + 1) 2 [.ref 22, .int v1, .int 0] [] mem Q) : am_J m4_clashesWithShown (D + 1) 0 [.ref 22, .int v1, .null] [] mem Q := by
  refine am_iconst (pc := 0) (v := 0) dX4_clashesWithShown_0 rfl ?_
  refine am_istoreE_n (pc := 1) 2 (loc' := [.ref 22, .int v1, .int 0]) dX4_clashesWithShown_1 rfl (by decide) rfl rfl ?_
  exact h
set_option maxRecDepth 100000 in
set_option maxHeartbeats 4000000 in
theorem sg4_clashesWithShown_2 {D : Nat} {mem : am_Mem} {Q : Option Value → am_Mem → Prop} {v1 : Int32} {v2 : Int32} (h : ((mem 1 4) ≤ v2 → Q (some (.int 0)) mem) ∧ (¬ (mem 1 4) ≤ v2 → vp_in v2 8 ∧ (((mem 23 v2.toNatClampNeg) = (-9) → am_J m4_clashesWithShown (D + 1) 47 [.ref 22, .int v1, .int v2] [] mem Q) ∧ (¬ (mem 23 v2.toNatClampNeg) = (-9) → vp_in v2 8 ∧ (am_Ci m6_boxOf D [.int v2, .int (mem 24 v2.toNatClampNeg)] mem (fun r_1 mem_1 => am_Ci m0_doClash D [.ref 8, .int v1, .int r_1] mem_1 (fun r_2 mem_2 => (r_2 = 0 → am_J m4_clashesWithShown (D + 1) 47 [.ref 22, .int v1, .int v2] [] mem_2 Q) ∧ (¬ r_2 = 0 → Q (some (.int 1)) mem_2)))))))) : am_J m4_clashesWithShown (D + 1) 2 [.ref 22, .int v1, .int v2] [] mem Q := by
  refine am_iload_n (pc := 2) 2 dX4_clashesWithShown_2 rfl rfl ?_
  refine am_aload_n (pc := 3) 0 dX4_clashesWithShown_3 rfl rfl ?_
  refine am_getR (pc := 4) (k := 0) cl4 sh22 (by decide) (by decide) f4_21 rfl dX4_clashesWithShown_4 ?_
  refine am_getI (pc := 7) (k := 4) cl1 sh1 (by decide) (by decide) f4_32 rfl dX4_clashesWithShown_7 ?_
  refine am_icmp_ge (pc := 10) 53 dX4_clashesWithShown_10 (by decide) (fun c => ?_) (fun c => ?_)
  · replace h := h.1 c
    refine am_iconst (pc := 53) (v := 0) dX4_clashesWithShown_53 rfl ?_
    exact am_zreturn rfl (by decide) dX4_clashesWithShown_54 h
  · replace h := h.2 c
    refine am_aload_n (pc := 13) 0 dX4_clashesWithShown_13 rfl rfl ?_
    refine am_getR (pc := 14) (k := 2) cl4 sh22 (by decide) (by decide) f4_9 rfl dX4_clashesWithShown_14 ?_
    refine am_iload_n (pc := 17) 2 dX4_clashesWithShown_17 rfl rfl ?_
    refine am_iald (pc := 18) sh23 (by decide) h.1 dX4_clashesWithShown_18 ?_
    replace h := h.2
    refine am_bipush (pc := 19) (v := -9) dX4_clashesWithShown_19 rfl ?_
    refine am_icmp_eq (pc := 21) 47 dX4_clashesWithShown_21 (by decide) (fun c => ?_) (fun c => ?_)
    · replace h := h.1 c
      exact h
    · replace h := h.2 c
      refine am_aload_n (pc := 24) 0 dX4_clashesWithShown_24 rfl rfl ?_
      refine am_getR (pc := 25) (k := 1) cl4 sh22 (by decide) (by decide) f4_25 rfl dX4_clashesWithShown_25 ?_
      refine am_iload_n (pc := 28) 1 dX4_clashesWithShown_28 rfl rfl ?_
      refine am_iload_n (pc := 29) 2 dX4_clashesWithShown_29 rfl rfl ?_
      refine am_aload_n (pc := 30) 0 dX4_clashesWithShown_30 rfl rfl ?_
      refine am_getR (pc := 31) (k := 3) cl4 sh22 (by decide) (by decide) f4_15 rfl dX4_clashesWithShown_31 ?_
      refine am_iload_n (pc := 34) 2 dX4_clashesWithShown_34 rfl rfl ?_
      refine am_iald (pc := 35) sh24 (by decide) h.1 dX4_clashesWithShown_35 ?_
      replace h := h.2
      refine am_callN (pc := 36) m6_boxOf D 2 [.int v2, .int (mem 24 v2.toNatClampNeg)] (rest := [.int v1, .ref 8]) ok6_boxOf (by omega) rfl rfl l4_53 st6_boxOf (Nat.le_of_ble_eq_true rfl) dX4_clashesWithShown_36 ?_
      refine am_Ci.use h (fun r_1 mem_1 h => ?_)
      show am_J m4_clashesWithShown (D + 1) 39 [.ref 22, .int v1, .int v2] [.int r_1, .int v1, .ref 8] mem_1 Q
      refine am_callV (pc := 39) m0_doClash D 2 [.int v1, .int r_1] (rest := []) ok0_doClash (by omega) rfl rfl sh8 (by decide) rfl l4_64 in0_doClash se0_doClash (Nat.le_of_ble_eq_true rfl) dX4_clashesWithShown_39 ?_
      refine am_Ci.use h (fun r_2 mem_2 h => ?_)
      show am_J m4_clashesWithShown (D + 1) 42 [.ref 22, .int v1, .int v2] [.int r_2] mem_2 Q
      refine am_if_eq (pc := 42) 47 dX4_clashesWithShown_42 (by decide) (fun c => ?_) (fun c => ?_)
      · replace h := h.1 c
        exact h
      · replace h := h.2 c
        refine am_iconst (pc := 45) (v := 1) dX4_clashesWithShown_45 rfl ?_
        exact am_zreturn rfl (by decide) dX4_clashesWithShown_46 h
set_option maxRecDepth 100000 in
set_option maxHeartbeats 4000000 in
theorem sg4_clashesWithShown_47 {D : Nat} {mem : am_Mem} {Q : Option Value → am_Mem → Prop} {v1 : Int32} {v2 : Int32} (h : am_J m4_clashesWithShown (D + 1) 2 [.ref 22, .int v1, .int (v2 + 1)] [] mem Q) : am_J m4_clashesWithShown (D + 1) 47 [.ref 22, .int v1, .int v2] [] mem Q := by
  refine am_iincE (pc := 47) (v := 1) (loc' := [.ref 22, .int v1, .int (v2 + 1)]) dX4_clashesWithShown_47 rfl rfl (by decide) rfl rfl ?_
  refine am_goto (pc := 50) 2 dX4_clashesWithShown_50 (by decide) ?_
  exact h
set_option maxRecDepth 100000 in
set_option maxHeartbeats 4000000 in
theorem sg5_study_0 {D : Nat} {mem : am_Mem} {Q : Option Value → am_Mem → Prop} {v1 : Int32} (h : am_Cv m0_measure D [.ref 8, .int v1, .int 1] mem (fun mem_1 => am_J m5_study (D + 1) 26 [.ref 15, .null, .int ((4 : Int32) * (mem_1 1 4)), .int 0] [] (am_set mem_1 15 4 0) Q)) : am_J m5_study (D + 1) 0 [.ref 15, .int v1, .null, .null] [] mem Q := by
  refine am_aload_n (pc := 0) 0 dX5_study_0 rfl rfl ?_
  refine am_getR (pc := 1) (k := 1) cl5 sh15 (by decide) (by decide) f5_28 rfl dX5_study_1 ?_
  refine am_iload_n (pc := 4) 1 dX5_study_4 rfl rfl ?_
  refine am_iconst (pc := 5) (v := 1) dX5_study_5 rfl ?_
  refine am_callV (pc := 6) m0_measure D 2 [.int v1, .int 1] (rest := []) ok0_measure (by omega) rfl rfl sh8 (by decide) rfl l5_32 in0_measure se0_measure (Nat.le_of_ble_eq_true rfl) dX5_study_6 ?_
  refine am_Cv.use h (fun mem_1 h => ?_)
  show am_J m5_study (D + 1) 9 [.ref 15, .int v1, .null, .null] [] mem_1 Q
  refine am_iconst (pc := 9) (v := 4) dX5_study_9 rfl ?_
  refine am_aload_n (pc := 10) 0 dX5_study_10 rfl rfl ?_
  refine am_getR (pc := 11) (k := 0) cl5 sh15 (by decide) (by decide) f5_24 rfl dX5_study_11 ?_
  refine am_getI (pc := 14) (k := 4) cl1 sh1 (by decide) (by decide) f5_38 rfl dX5_study_14 ?_
  refine am_imul (pc := 17) dX5_study_17 ?_
  refine am_istoreE_n (pc := 18) 2 (loc' := [.ref 15, .int v1, .int ((4 : Int32) * (mem_1 1 4)), .null]) dX5_study_18 rfl (by decide) rfl rfl ?_
  refine am_aload_n (pc := 19) 0 dX5_study_19 rfl rfl ?_
  refine am_iconst (pc := 20) (v := 0) dX5_study_20 rfl ?_
  refine am_putI (pc := 21) (k := 4) cl5 sh15 (by decide) (by decide) f5_44 rfl rfl rfl dX5_study_21 ?_
  refine am_iconst (pc := 24) (v := 0) dX5_study_24 rfl ?_
  refine am_istoreE_n (pc := 25) 3 (loc' := [.ref 15, .int v1, .int ((4 : Int32) * (mem_1 1 4)), .int 0]) dX5_study_25 rfl (by decide) rfl rfl ?_
  exact am_drop [1] h
set_option maxRecDepth 100000 in
set_option maxHeartbeats 4000000 in
theorem sg5_study_26 {D : Nat} {mem : am_Mem} {Q : Option Value → am_Mem → Prop} {v2 : Int32} {v3 : Int32} (h : (v2 ≤ v3 → Q none mem) ∧ (¬ v2 ≤ v3 → am_Ci m0_sitesWithin D [.ref 8, .int v3] mem (fun r_1 mem_1 => vp_in v3 32 ∧ (am_Ci m5_clashingWith D [.ref 15, .int v3, .int v2] (am_set mem_1 16 v3.toNatClampNeg r_1) (fun r_2 mem_2 => vp_in v3 32 ∧ (am_Ci m0_mayStand D [.ref 8, .int v3] (am_set mem_2 17 v3.toNatClampNeg r_2) (fun r_3 mem_3 => (r_3 = 0 → am_J m5_study (D + 1) 80 [.ref 15, .null, .int v2, .int v3] [] mem_3 Q) ∧ (¬ r_3 = 0 → am_J m5_study (D + 1) 80 [.ref 15, .null, .int v2, .int v3] [] (am_set mem_3 15 4 ((mem_3 15 4) ||| ((1 : Int32) <<< (v3 &&& 31)))) Q)))))))) : am_J m5_study (D + 1) 26 [.ref 15, .null, .int v2, .int v3] [] mem Q := by
  refine am_iload_n (pc := 26) 3 dX5_study_26 rfl rfl ?_
  refine am_iload_n (pc := 27) 2 dX5_study_27 rfl rfl ?_
  refine am_icmp_ge (pc := 28) 86 dX5_study_28 (by decide) (fun c => ?_) (fun c => ?_)
  · replace h := h.1 c
    exact am_return rfl dX5_study_86 h
  · replace h := h.2 c
    refine am_aload_n (pc := 31) 0 dX5_study_31 rfl rfl ?_
    refine am_getR (pc := 32) (k := 2) cl5 sh15 (by decide) (by decide) f5_9 rfl dX5_study_32 ?_
    refine am_iload_n (pc := 35) 3 dX5_study_35 rfl rfl ?_
    refine am_aload_n (pc := 36) 0 dX5_study_36 rfl rfl ?_
    refine am_getR (pc := 37) (k := 1) cl5 sh15 (by decide) (by decide) f5_28 rfl dX5_study_37 ?_
    refine am_iload_n (pc := 40) 3 dX5_study_40 rfl rfl ?_
    refine am_callV (pc := 41) m0_sitesWithin D 1 [.int v3] (rest := [.int v3, .ref 16]) ok0_sitesWithin (by omega) rfl rfl sh8 (by decide) rfl l5_47 in0_sitesWithin se0_sitesWithin (Nat.le_of_ble_eq_true rfl) dX5_study_41 ?_
    refine am_Ci.use h (fun r_1 mem_1 h => ?_)
    show am_J m5_study (D + 1) 44 [.ref 15, .null, .int v2, .int v3] [.int r_1, .int v3, .ref 16] mem_1 Q
    refine am_iast (pc := 44) sh16 (by decide) h.1 dX5_study_44 ?_
    replace h := h.2
    refine am_aload_n (pc := 45) 0 dX5_study_45 rfl rfl ?_
    refine am_getR (pc := 46) (k := 3) cl5 sh15 (by decide) (by decide) f5_15 rfl dX5_study_46 ?_
    refine am_iload_n (pc := 49) 3 dX5_study_49 rfl rfl ?_
    refine am_aload_n (pc := 50) 0 dX5_study_50 rfl rfl ?_
    refine am_iload_n (pc := 51) 3 dX5_study_51 rfl rfl ?_
    refine am_iload_n (pc := 52) 2 dX5_study_52 rfl rfl ?_
    refine am_callV (pc := 53) m5_clashingWith D 2 [.int v3, .int v2] (rest := [.int v3, .ref 17]) ok5_clashingWith (by omega) rfl rfl sh15 (by decide) rfl l5_51 in5_clashingWith se5_clashingWith (Nat.le_of_ble_eq_true rfl) dX5_study_53 ?_
    refine am_Ci.use h (fun r_2 mem_2 h => ?_)
    show am_J m5_study (D + 1) 56 [.ref 15, .null, .int v2, .int v3] [.int r_2, .int v3, .ref 17] mem_2 Q
    refine am_iast (pc := 56) sh17 (by decide) h.1 dX5_study_56 ?_
    replace h := h.2
    refine am_aload_n (pc := 57) 0 dX5_study_57 rfl rfl ?_
    refine am_getR (pc := 58) (k := 1) cl5 sh15 (by decide) (by decide) f5_28 rfl dX5_study_58 ?_
    refine am_iload_n (pc := 61) 3 dX5_study_61 rfl rfl ?_
    refine am_callV (pc := 62) m0_mayStand D 1 [.int v3] (rest := []) ok0_mayStand (by omega) rfl rfl sh8 (by decide) rfl l5_55 in0_mayStand se0_mayStand (Nat.le_of_ble_eq_true rfl) dX5_study_62 ?_
    refine am_Ci.use h (fun r_3 mem_3 h => ?_)
    show am_J m5_study (D + 1) 65 [.ref 15, .null, .int v2, .int v3] [.int r_3] mem_3 Q
    refine am_if_eq (pc := 65) 80 dX5_study_65 (by decide) (fun c => ?_) (fun c => ?_)
    · replace h := h.1 c
      exact h
    · replace h := h.2 c
      refine am_aload_n (pc := 68) 0 dX5_study_68 rfl rfl ?_
      refine am_dup (pc := 69) dX5_study_69 rfl ?_
      refine am_getI (pc := 70) (k := 4) cl5 sh15 (by decide) (by decide) f5_44 rfl dX5_study_70 ?_
      refine am_iconst (pc := 73) (v := 1) dX5_study_73 rfl ?_
      refine am_iload_n (pc := 74) 3 dX5_study_74 rfl rfl ?_
      refine am_ishl (pc := 75) dX5_study_75 ?_
      refine am_ior (pc := 76) dX5_study_76 ?_
      refine am_putI (pc := 77) (k := 4) cl5 sh15 (by decide) (by decide) f5_44 rfl rfl rfl dX5_study_77 ?_
      exact h
set_option maxRecDepth 100000 in
set_option maxHeartbeats 4000000 in
theorem sg5_study_80 {D : Nat} {mem : am_Mem} {Q : Option Value → am_Mem → Prop} {v2 : Int32} {v3 : Int32} (h : am_J m5_study (D + 1) 26 [.ref 15, .null, .int v2, .int (v3 + 1)] [] mem Q) : am_J m5_study (D + 1) 80 [.ref 15, .null, .int v2, .int v3] [] mem Q := by
  refine am_iincE (pc := 80) (v := 1) (loc' := [.ref 15, .null, .int v2, .int (v3 + 1)]) dX5_study_80 rfl rfl (by decide) rfl rfl ?_
  refine am_goto (pc := 83) 26 dX5_study_83 (by decide) ?_
  exact h
set_option maxRecDepth 100000 in
set_option maxHeartbeats 4000000 in
theorem sg5_clashingWith_0 {D : Nat} {mem : am_Mem} {Q : Option Value → am_Mem → Prop} {v1 : Int32} {v2 : Int32} (h : am_J m5_clashingWith (D + 1) 5 [.ref 15, .int v1, .int v2, .int 0, .int 0] [] mem Q) : am_J m5_clashingWith (D + 1) 0 [.ref 15, .int v1, .int v2, .null, .null] [] mem Q := by
  refine am_iconst (pc := 0) (v := 0) dX5_clashingWith_0 rfl ?_
  refine am_istoreE_n (pc := 1) 3 (loc' := [.ref 15, .int v1, .int v2, .int 0, .null]) dX5_clashingWith_1 rfl (by decide) rfl rfl ?_
  refine am_iconst (pc := 2) (v := 0) dX5_clashingWith_2 rfl ?_
  refine am_istoreE (pc := 3) (loc' := [.ref 15, .int v1, .int v2, .int 0, .int 0]) dX5_clashingWith_3 (by decide) rfl rfl ?_
  exact h
set_option maxRecDepth 100000 in
set_option maxHeartbeats 4000000 in
theorem sg5_clashingWith_5 {D : Nat} {mem : am_Mem} {Q : Option Value → am_Mem → Prop} {v1 : Int32} {v2 : Int32} {v3 : Int32} {v4 : Int32} (h : (v2 ≤ v4 → Q (some (.int v3)) mem) ∧ (¬ v2 ≤ v4 → ((v4 / 4) = (v1 / 4) → am_J m5_clashingWith (D + 1) 41 [.ref 15, .int v1, .int v2, .int v3, .int v4] [] mem Q) ∧ (¬ (v4 / 4) = (v1 / 4) → am_Ci m0_doClash D [.ref 8, .int v1, .int v4] mem (fun r_1 mem_1 => (r_1 = 0 → am_J m5_clashingWith (D + 1) 41 [.ref 15, .int v1, .int v2, .int v3, .int v4] [] mem_1 Q) ∧ (¬ r_1 = 0 → am_J m5_clashingWith (D + 1) 41 [.ref 15, .int v1, .int v2, .int (v3 ||| ((1 : Int32) <<< (v4 &&& 31))), .int v4] [] mem_1 Q))))) : am_J m5_clashingWith (D + 1) 5 [.ref 15, .int v1, .int v2, .int v3, .int v4] [] mem Q := by
  refine am_iload (pc := 5) dX5_clashingWith_5 rfl ?_
  refine am_iload_n (pc := 7) 2 dX5_clashingWith_7 rfl rfl ?_
  refine am_icmp_ge (pc := 8) 47 dX5_clashingWith_8 (by decide) (fun c => ?_) (fun c => ?_)
  · replace h := h.1 c
    refine am_iload_n (pc := 47) 3 dX5_clashingWith_47 rfl rfl ?_
    exact am_ireturn rfl dX5_clashingWith_48 h
  · replace h := h.2 c
    refine am_iload (pc := 11) dX5_clashingWith_11 rfl ?_
    refine am_iconst (pc := 13) (v := 4) dX5_clashingWith_13 rfl ?_
    refine am_idiv (pc := 14) dX5_clashingWith_14 (by decide) ?_
    refine am_iload_n (pc := 15) 1 dX5_clashingWith_15 rfl rfl ?_
    refine am_iconst (pc := 16) (v := 4) dX5_clashingWith_16 rfl ?_
    refine am_idiv (pc := 17) dX5_clashingWith_17 (by decide) ?_
    refine am_icmp_eq (pc := 18) 41 dX5_clashingWith_18 (by decide) (fun c => ?_) (fun c => ?_)
    · replace h := h.1 c
      exact h
    · replace h := h.2 c
      refine am_aload_n (pc := 21) 0 dX5_clashingWith_21 rfl rfl ?_
      refine am_getR (pc := 22) (k := 1) cl5 sh15 (by decide) (by decide) f5_28 rfl dX5_clashingWith_22 ?_
      refine am_iload_n (pc := 25) 1 dX5_clashingWith_25 rfl rfl ?_
      refine am_iload (pc := 26) dX5_clashingWith_26 rfl ?_
      refine am_callV (pc := 28) m0_doClash D 2 [.int v1, .int v4] (rest := []) ok0_doClash (by omega) rfl rfl sh8 (by decide) rfl l5_59 in0_doClash se0_doClash (Nat.le_of_ble_eq_true rfl) dX5_clashingWith_28 ?_
      refine am_Ci.use h (fun r_1 mem_1 h => ?_)
      show am_J m5_clashingWith (D + 1) 31 [.ref 15, .int v1, .int v2, .int v3, .int v4] [.int r_1] mem_1 Q
      refine am_if_eq (pc := 31) 41 dX5_clashingWith_31 (by decide) (fun c => ?_) (fun c => ?_)
      · replace h := h.1 c
        exact h
      · replace h := h.2 c
        refine am_iload_n (pc := 34) 3 dX5_clashingWith_34 rfl rfl ?_
        refine am_iconst (pc := 35) (v := 1) dX5_clashingWith_35 rfl ?_
        refine am_iload (pc := 36) dX5_clashingWith_36 rfl ?_
        refine am_ishl (pc := 38) dX5_clashingWith_38 ?_
        refine am_ior (pc := 39) dX5_clashingWith_39 ?_
        refine am_istoreE_n (pc := 40) 3 (loc' := [.ref 15, .int v1, .int v2, .int (v3 ||| ((1 : Int32) <<< (v4 &&& 31))), .int v4]) dX5_clashingWith_40 rfl (by decide) rfl rfl ?_
        exact h
set_option maxRecDepth 100000 in
set_option maxHeartbeats 4000000 in
theorem sg5_clashingWith_41 {D : Nat} {mem : am_Mem} {Q : Option Value → am_Mem → Prop} {v1 : Int32} {v2 : Int32} {v3 : Int32} {v4 : Int32} (h : am_J m5_clashingWith (D + 1) 5 [.ref 15, .int v1, .int v2, .int v3, .int (v4 + 1)] [] mem Q) : am_J m5_clashingWith (D + 1) 41 [.ref 15, .int v1, .int v2, .int v3, .int v4] [] mem Q := by
  refine am_iincE (pc := 41) (v := 1) (loc' := [.ref 15, .int v1, .int v2, .int v3, .int (v4 + 1)]) dX5_clashingWith_41 rfl rfl (by decide) rfl rfl ?_
  refine am_goto (pc := 44) 5 dX5_clashingWith_44 (by decide) ?_
  exact h
set_option maxRecDepth 100000 in
set_option maxHeartbeats 4000000 in
theorem sg5_freeBoxes_0 {D : Nat} {mem : am_Mem} {Q : Option Value → am_Mem → Prop} {v1 : Int32} (h : am_J m5_freeBoxes (D + 1) 4 [.ref 15, .int v1, .int 0, .int 0, .null, .null] [] mem Q) : am_J m5_freeBoxes (D + 1) 0 [.ref 15, .int v1, .null, .null, .null, .null] [] mem Q := by
  refine am_iconst (pc := 0) (v := 0) dX5_freeBoxes_0 rfl ?_
  refine am_istoreE_n (pc := 1) 2 (loc' := [.ref 15, .int v1, .int 0, .null, .null, .null]) dX5_freeBoxes_1 rfl (by decide) rfl rfl ?_
  refine am_iconst (pc := 2) (v := 0) dX5_freeBoxes_2 rfl ?_
  refine am_istoreE_n (pc := 3) 3 (loc' := [.ref 15, .int v1, .int 0, .int 0, .null, .null]) dX5_freeBoxes_3 rfl (by decide) rfl rfl ?_
  exact h
set_option maxRecDepth 100000 in
set_option maxHeartbeats 4000000 in
theorem sg5_freeBoxes_4 {D : Nat} {mem : am_Mem} {Q : Option Value → am_Mem → Prop} {v1 : Int32} {v2 : Int32} {v3 : Int32} (h : ((mem 1 4) ≤ v3 → Q (some (.int v2)) mem) ∧ (¬ (mem 1 4) ≤ v3 → am_J m5_freeBoxes (D + 1) 18 [.ref 15, .int v1, .int v2, .int v3, .int 0, .null] [] mem Q)) : am_J m5_freeBoxes (D + 1) 4 [.ref 15, .int v1, .int v2, .int v3, .null, .null] [] mem Q := by
  refine am_iload_n (pc := 4) 3 dX5_freeBoxes_4 rfl rfl ?_
  refine am_aload_n (pc := 5) 0 dX5_freeBoxes_5 rfl rfl ?_
  refine am_getR (pc := 6) (k := 0) cl5 sh15 (by decide) (by decide) f5_24 rfl dX5_freeBoxes_6 ?_
  refine am_getI (pc := 9) (k := 4) cl1 sh1 (by decide) (by decide) f5_38 rfl dX5_freeBoxes_9 ?_
  refine am_icmp_ge (pc := 12) 83 dX5_freeBoxes_12 (by decide) (fun c => ?_) (fun c => ?_)
  · replace h := h.1 c
    refine am_iload_n (pc := 83) 2 dX5_freeBoxes_83 rfl rfl ?_
    exact am_ireturn rfl dX5_freeBoxes_84 h
  · replace h := h.2 c
    refine am_iconst (pc := 15) (v := 0) dX5_freeBoxes_15 rfl ?_
    refine am_istoreE (pc := 16) (loc' := [.ref 15, .int v1, .int v2, .int v3, .int 0, .null]) dX5_freeBoxes_16 (by decide) rfl rfl ?_
    exact h
set_option maxRecDepth 100000 in
set_option maxHeartbeats 4000000 in
theorem sg5_freeBoxes_18 {D : Nat} {mem : am_Mem} {Q : Option Value → am_Mem → Prop} {v1 : Int32} {v2 : Int32} {v3 : Int32} {v4 : Int32} (h : (4 ≤ v4 → am_J m5_freeBoxes (D + 1) 4 [.ref 15, .int v1, .int v2, .int (v3 + 1), .null, .null] [] mem Q) ∧ (¬ 4 ≤ v4 → am_Ci m6_boxOf D [.int v3, .int v4] mem (fun r_1 mem_1 => am_Ci m6_hasBit D [.int v1, .int v3] mem_1 (fun r_2 mem_2 => (r_2 = 0 → am_J m5_freeBoxes (D + 1) 71 [.ref 15, .int v1, .int v2, .int v3, .int v4, .null] [] mem_2 Q) ∧ (¬ r_2 = 0 → am_Ci m6_hasBit D [.int (mem_2 15 4), .int r_1] mem_2 (fun r_3 mem_3 => (r_3 = 0 → am_J m5_freeBoxes (D + 1) 71 [.ref 15, .int v1, .int v2, .int v3, .int v4, .null] [] mem_3 Q) ∧ (¬ r_3 = 0 → vp_in r_1 32 ∧ ((¬ ((mem_3 16 r_1.toNatClampNeg) &&& v1) = 0 → am_J m5_freeBoxes (D + 1) 71 [.ref 15, .int v1, .int v2, .int v3, .int v4, .null] [] mem_3 Q) ∧ (((mem_3 16 r_1.toNatClampNeg) &&& v1) = 0 → am_J m5_freeBoxes (D + 1) 71 [.ref 15, .int v1, .int (v2 ||| ((1 : Int32) <<< (r_1 &&& 31))), .int v3, .int v4, .null] [] mem_3 Q))))))))) : am_J m5_freeBoxes (D + 1) 18 [.ref 15, .int v1, .int v2, .int v3, .int v4, .null] [] mem Q := by
  refine am_iload (pc := 18) dX5_freeBoxes_18 rfl ?_
  refine am_iconst (pc := 20) (v := 4) dX5_freeBoxes_20 rfl ?_
  refine am_icmp_ge (pc := 21) 77 dX5_freeBoxes_21 (by decide) (fun c => ?_) (fun c => ?_)
  · replace h := h.1 c
    refine am_iincE (pc := 77) (v := 1) (loc' := [.ref 15, .int v1, .int v2, .int (v3 + 1), .int v4, .null]) dX5_freeBoxes_77 rfl rfl (by decide) rfl rfl ?_
    refine am_goto (pc := 80) 4 dX5_freeBoxes_80 (by decide) ?_
    exact am_drop [4] h
  · replace h := h.2 c
    refine am_iload_n (pc := 24) 3 dX5_freeBoxes_24 rfl rfl ?_
    refine am_iload (pc := 25) dX5_freeBoxes_25 rfl ?_
    refine am_callN (pc := 27) m6_boxOf D 2 [.int v3, .int v4] (rest := []) ok6_boxOf (by omega) rfl rfl l5_63 st6_boxOf (Nat.le_of_ble_eq_true rfl) dX5_freeBoxes_27 ?_
    refine am_Ci.use h (fun r_1 mem_1 h => ?_)
    show am_J m5_freeBoxes (D + 1) 30 [.ref 15, .int v1, .int v2, .int v3, .int v4, .null] [.int r_1] mem_1 Q
    refine am_istoreE (pc := 30) (loc' := [.ref 15, .int v1, .int v2, .int v3, .int v4, .int r_1]) dX5_freeBoxes_30 (by decide) rfl rfl ?_
    refine am_iload_n (pc := 32) 1 dX5_freeBoxes_32 rfl rfl ?_
    refine am_iload_n (pc := 33) 3 dX5_freeBoxes_33 rfl rfl ?_
    refine am_callN (pc := 34) m6_hasBit D 2 [.int v1, .int v3] (rest := []) ok6_hasBit (by omega) rfl rfl l5_66 st6_hasBit (Nat.le_of_ble_eq_true rfl) dX5_freeBoxes_34 ?_
    refine am_Ci.use h (fun r_2 mem_2 h => ?_)
    show am_J m5_freeBoxes (D + 1) 37 [.ref 15, .int v1, .int v2, .int v3, .int v4, .int r_1] [.int r_2] mem_2 Q
    refine am_if_eq (pc := 37) 71 dX5_freeBoxes_37 (by decide) (fun c => ?_) (fun c => ?_)
    · replace h := h.1 c
      exact am_drop [5] h
    · replace h := h.2 c
      refine am_aload_n (pc := 40) 0 dX5_freeBoxes_40 rfl rfl ?_
      refine am_getI (pc := 41) (k := 4) cl5 sh15 (by decide) (by decide) f5_44 rfl dX5_freeBoxes_41 ?_
      refine am_iload (pc := 44) dX5_freeBoxes_44 rfl ?_
      refine am_callN (pc := 46) m6_hasBit D 2 [.int (mem_2 15 4), .int r_1] (rest := []) ok6_hasBit (by omega) rfl rfl l5_66 st6_hasBit (Nat.le_of_ble_eq_true rfl) dX5_freeBoxes_46 ?_
      refine am_Ci.use h (fun r_3 mem_3 h => ?_)
      show am_J m5_freeBoxes (D + 1) 49 [.ref 15, .int v1, .int v2, .int v3, .int v4, .int r_1] [.int r_3] mem_3 Q
      refine am_if_eq (pc := 49) 71 dX5_freeBoxes_49 (by decide) (fun c => ?_) (fun c => ?_)
      · replace h := h.1 c
        exact am_drop [5] h
      · replace h := h.2 c
        refine am_aload_n (pc := 52) 0 dX5_freeBoxes_52 rfl rfl ?_
        refine am_getR (pc := 53) (k := 2) cl5 sh15 (by decide) (by decide) f5_9 rfl dX5_freeBoxes_53 ?_
        refine am_iload (pc := 56) dX5_freeBoxes_56 rfl ?_
        refine am_iald (pc := 58) sh16 (by decide) h.1 dX5_freeBoxes_58 ?_
        replace h := h.2
        refine am_iload_n (pc := 59) 1 dX5_freeBoxes_59 rfl rfl ?_
        refine am_iand (pc := 60) dX5_freeBoxes_60 ?_
        refine am_if_ne (pc := 61) 71 dX5_freeBoxes_61 (by decide) (fun c => ?_) (fun c => ?_)
        · replace h := h.1 c
          exact am_drop [5] h
        · replace h := h.2 c
          refine am_iload_n (pc := 64) 2 dX5_freeBoxes_64 rfl rfl ?_
          refine am_iconst (pc := 65) (v := 1) dX5_freeBoxes_65 rfl ?_
          refine am_iload (pc := 66) dX5_freeBoxes_66 rfl ?_
          refine am_ishl (pc := 68) dX5_freeBoxes_68 ?_
          refine am_ior (pc := 69) dX5_freeBoxes_69 ?_
          refine am_istoreE_n (pc := 70) 2 (loc' := [.ref 15, .int v1, .int (v2 ||| ((1 : Int32) <<< (r_1 &&& 31))), .int v3, .int v4, .int r_1]) dX5_freeBoxes_70 rfl (by decide) rfl rfl ?_
          exact am_drop [5] h
set_option maxRecDepth 100000 in
set_option maxHeartbeats 4000000 in
theorem sg5_freeBoxes_71 {D : Nat} {mem : am_Mem} {Q : Option Value → am_Mem → Prop} {v1 : Int32} {v2 : Int32} {v3 : Int32} {v4 : Int32} (h : am_J m5_freeBoxes (D + 1) 18 [.ref 15, .int v1, .int v2, .int v3, .int (v4 + 1), .null] [] mem Q) : am_J m5_freeBoxes (D + 1) 71 [.ref 15, .int v1, .int v2, .int v3, .int v4, .null] [] mem Q := by
  refine am_iincE (pc := 71) (v := 1) (loc' := [.ref 15, .int v1, .int v2, .int v3, .int (v4 + 1), .null]) dX5_freeBoxes_71 rfl rfl (by decide) rfl rfl ?_
  refine am_goto (pc := 74) 18 dX5_freeBoxes_74 (by decide) ?_
  exact h
set_option maxRecDepth 100000 in
set_option maxHeartbeats 4000000 in
theorem sg5_freeBoxesWith_0 {D : Nat} {mem : am_Mem} {Q : Option Value → am_Mem → Prop} {v1 : Int32} {v2 : Int32} (h : am_Ci m1_everySite D [.ref 1] mem (fun r_1 mem_1 => am_Ci m5_freeBoxes D [.ref 15, .int r_1] mem_1 (fun r_2 mem_2 => am_Ci m6_boxesOf D [.int v1] mem_2 (fun r_3 mem_3 => am_Ci m6_boxOf D [.int v1, .int v2] mem_3 (fun r_4 mem_4 => Q (some (.int (r_2 &&& ((r_3 ^^^ (-1 : Int32)) ||| ((1 : Int32) <<< (r_4 &&& 31)))))) mem_4))))) : am_J m5_freeBoxesWith (D + 1) 0 [.ref 15, .int v1, .int v2] [] mem Q := by
  refine am_aload_n (pc := 0) 0 dX5_freeBoxesWith_0 rfl rfl ?_
  refine am_aload_n (pc := 1) 0 dX5_freeBoxesWith_1 rfl rfl ?_
  refine am_getR (pc := 2) (k := 0) cl5 sh15 (by decide) (by decide) f5_24 rfl dX5_freeBoxesWith_2 ?_
  refine am_callV (pc := 5) m1_everySite D 0 [] (rest := [.ref 15]) ok1_everySite (by omega) rfl rfl sh1 (by decide) rfl l5_69 in1_everySite se1_everySite (Nat.le_of_ble_eq_true rfl) dX5_freeBoxesWith_5 ?_
  refine am_Ci.use h (fun r_1 mem_1 h => ?_)
  show am_J m5_freeBoxesWith (D + 1) 8 [.ref 15, .int v1, .int v2] [.int r_1, .ref 15] mem_1 Q
  refine am_callV (pc := 8) m5_freeBoxes D 1 [.int r_1] (rest := []) ok5_freeBoxes (by omega) rfl rfl sh15 (by decide) rfl l5_73 in5_freeBoxes se5_freeBoxes (Nat.le_of_ble_eq_true rfl) dX5_freeBoxesWith_8 ?_
  refine am_Ci.use h (fun r_2 mem_2 h => ?_)
  show am_J m5_freeBoxesWith (D + 1) 11 [.ref 15, .int v1, .int v2] [.int r_2] mem_2 Q
  refine am_iload_n (pc := 11) 1 dX5_freeBoxesWith_11 rfl rfl ?_
  refine am_callN (pc := 12) m6_boxesOf D 1 [.int v1] (rest := [.int r_2]) ok6_boxesOf (by omega) rfl rfl l5_76 st6_boxesOf (Nat.le_of_ble_eq_true rfl) dX5_freeBoxesWith_12 ?_
  refine am_Ci.use h (fun r_3 mem_3 h => ?_)
  show am_J m5_freeBoxesWith (D + 1) 15 [.ref 15, .int v1, .int v2] [.int r_3, .int r_2] mem_3 Q
  refine am_iconst (pc := 15) (v := -1) dX5_freeBoxesWith_15 rfl ?_
  refine am_ixor (pc := 16) dX5_freeBoxesWith_16 ?_
  refine am_iconst (pc := 17) (v := 1) dX5_freeBoxesWith_17 rfl ?_
  refine am_iload_n (pc := 18) 1 dX5_freeBoxesWith_18 rfl rfl ?_
  refine am_iload_n (pc := 19) 2 dX5_freeBoxesWith_19 rfl rfl ?_
  refine am_callN (pc := 20) m6_boxOf D 2 [.int v1, .int v2] (rest := [.int 1, .int (r_3 ^^^ (-1 : Int32)), .int r_2]) ok6_boxOf (by omega) rfl rfl l5_63 st6_boxOf (Nat.le_of_ble_eq_true rfl) dX5_freeBoxesWith_20 ?_
  refine am_Ci.use h (fun r_4 mem_4 h => ?_)
  show am_J m5_freeBoxesWith (D + 1) 23 [.ref 15, .int v1, .int v2] [.int r_4, .int 1, .int (r_3 ^^^ (-1 : Int32)), .int r_2] mem_4 Q
  refine am_ishl (pc := 23) dX5_freeBoxesWith_23 ?_
  refine am_ior (pc := 24) dX5_freeBoxesWith_24 ?_
  refine am_iand (pc := 25) dX5_freeBoxesWith_25 ?_
  exact am_ireturn rfl dX5_freeBoxesWith_26 h
set_option maxRecDepth 100000 in
set_option maxHeartbeats 4000000 in
theorem sg5_findBest_0 {D : Nat} {mem : am_Mem} {Q : Option Value → am_Mem → Prop}  (h : am_Cv m5_study D [.ref 15, .int (mem 1 2)] mem (fun mem_1 => am_Ci m1_everySite D [.ref 1] (am_set mem_1 15 7 (-1)) (fun r_2 mem_2 => am_Ci m5_freeBoxes D [.ref 15, .int r_2] mem_2 (fun r_3 mem_3 => am_Ci m1_everySite D [.ref 1] mem_3 (fun r_4 mem_4 => am_Ci m1_worthOf D [.ref 1, .int r_4] mem_4 (fun r_5 mem_5 => am_Cv m5_seekBest D [.ref 15, .int 0, .int r_3, .int 0, .int r_5] mem_5 (fun mem_6 => Q none mem_6))))))) : am_J m5_findBest (D + 1) 0 [.ref 15] [] mem Q := by
  refine am_aload_n (pc := 0) 0 dX5_findBest_0 rfl rfl ?_
  refine am_aload_n (pc := 1) 0 dX5_findBest_1 rfl rfl ?_
  refine am_getR (pc := 2) (k := 0) cl5 sh15 (by decide) (by decide) f5_24 rfl dX5_findBest_2 ?_
  refine am_getI (pc := 5) (k := 2) cl1 sh1 (by decide) (by decide) f5_79 rfl dX5_findBest_5 ?_
  refine am_callV (pc := 8) m5_study D 1 [.int (mem 1 2)] (rest := []) ok5_study (by omega) rfl rfl sh15 (by decide) rfl l5_82 in5_study se5_study (Nat.le_of_ble_eq_true rfl) dX5_findBest_8 ?_
  refine am_Cv.use h (fun mem_1 h => ?_)
  show am_J m5_findBest (D + 1) 11 [.ref 15] [] mem_1 Q
  refine am_aload_n (pc := 11) 0 dX5_findBest_11 rfl rfl ?_
  refine am_iconst (pc := 12) (v := -1) dX5_findBest_12 rfl ?_
  refine am_putI (pc := 13) (k := 7) cl5 sh15 (by decide) (by decide) f5_86 rfl rfl rfl dX5_findBest_13 ?_
  refine am_aload_n (pc := 16) 0 dX5_findBest_16 rfl rfl ?_
  refine am_iconst (pc := 17) (v := 0) dX5_findBest_17 rfl ?_
  refine am_aload_n (pc := 18) 0 dX5_findBest_18 rfl rfl ?_
  refine am_aload_n (pc := 19) 0 dX5_findBest_19 rfl rfl ?_
  refine am_getR (pc := 20) (k := 0) cl5 sh15 (by decide) (by decide) f5_24 rfl dX5_findBest_20 ?_
  refine am_callV (pc := 23) m1_everySite D 0 [] (rest := [.ref 15, .int 0, .ref 15]) ok1_everySite (by omega) rfl rfl sh1 (by decide) rfl l5_69 in1_everySite se1_everySite (Nat.le_of_ble_eq_true rfl) dX5_findBest_23 ?_
  refine am_Ci.use h (fun r_2 mem_2 h => ?_)
  show am_J m5_findBest (D + 1) 26 [.ref 15] [.int r_2, .ref 15, .int 0, .ref 15] mem_2 Q
  refine am_callV (pc := 26) m5_freeBoxes D 1 [.int r_2] (rest := [.int 0, .ref 15]) ok5_freeBoxes (by omega) rfl rfl sh15 (by decide) rfl l5_73 in5_freeBoxes se5_freeBoxes (Nat.le_of_ble_eq_true rfl) dX5_findBest_26 ?_
  refine am_Ci.use h (fun r_3 mem_3 h => ?_)
  show am_J m5_findBest (D + 1) 29 [.ref 15] [.int r_3, .int 0, .ref 15] mem_3 Q
  refine am_iconst (pc := 29) (v := 0) dX5_findBest_29 rfl ?_
  refine am_aload_n (pc := 30) 0 dX5_findBest_30 rfl rfl ?_
  refine am_getR (pc := 31) (k := 0) cl5 sh15 (by decide) (by decide) f5_24 rfl dX5_findBest_31 ?_
  refine am_aload_n (pc := 34) 0 dX5_findBest_34 rfl rfl ?_
  refine am_getR (pc := 35) (k := 0) cl5 sh15 (by decide) (by decide) f5_24 rfl dX5_findBest_35 ?_
  refine am_callV (pc := 38) m1_everySite D 0 [] (rest := [.ref 1, .int 0, .int r_3, .int 0, .ref 15]) ok1_everySite (by omega) rfl rfl sh1 (by decide) rfl l5_69 in1_everySite se1_everySite (Nat.le_of_ble_eq_true rfl) dX5_findBest_38 ?_
  refine am_Ci.use h (fun r_4 mem_4 h => ?_)
  show am_J m5_findBest (D + 1) 41 [.ref 15] [.int r_4, .ref 1, .int 0, .int r_3, .int 0, .ref 15] mem_4 Q
  refine am_callV (pc := 41) m1_worthOf D 1 [.int r_4] (rest := [.int 0, .int r_3, .int 0, .ref 15]) ok1_worthOf (by omega) rfl rfl sh1 (by decide) rfl l5_89 in1_worthOf se1_worthOf (Nat.le_of_ble_eq_true rfl) dX5_findBest_41 ?_
  refine am_Ci.use h (fun r_5 mem_5 h => ?_)
  show am_J m5_findBest (D + 1) 44 [.ref 15] [.int r_5, .int 0, .int r_3, .int 0, .ref 15] mem_5 Q
  refine am_callS (pc := 44) m5_seekBest D 5 [.ref 15, .int 0, .int r_3, .int 0, .int r_5] (rest := []) ok5_seekBest (by omega) rfl rfl l5_92 st5_seekBest (Nat.le_of_ble_eq_true rfl) dX5_findBest_44 ?_
  refine am_Cv.use h (fun mem_6 h => ?_)
  show am_J m5_findBest (D + 1) 47 [.ref 15] [] mem_6 Q
  exact am_return rfl dX5_findBest_47 h
set_option maxRecDepth 100000 in
set_option maxHeartbeats 4000000 in
theorem sg5_seekBest_0 {D : Nat} {mem : am_Mem} {Q : Option Value → am_Mem → Prop} {v1 : Int32} {v2 : Int32} {v3 : Int32} {v4 : Int32} (h : ((mem 15 7) < v4 → (v1 < (mem 1 4) → vp_in v1 8 ∧ (am_Ci m6_boxesOf D [.int v1] mem (fun r_1 mem_1 => am_J m5_seekBest (D + 1) 66 [.ref 15, .int v1, .int v2, .int v3, .int v4, .int (mem 6 v1.toNatClampNeg), .int (v2 &&& (r_1 ^^^ (-1 : Int32))), .int 0, .null, .null] [] mem_1 Q))) ∧ (¬ v1 < (mem 1 4) → Q none (am_put (am_set mem 15 7 v3) 19 (va_cpy ((am_set mem 15 7 v3) 18) ((am_set mem 15 7 v3) 19) (0 : Int32).toNatClampNeg (0 : Int32).toNatClampNeg (8 : Int32).toNatClampNeg)))) ∧ (¬ (mem 15 7) < v4 → Q none mem)) : am_J m5_seekBest (D + 1) 0 [.ref 15, .int v1, .int v2, .int v3, .int v4, .null, .null, .null, .null, .null] [] mem Q := by
  refine am_iload (pc := 0) dX5_seekBest_0 rfl ?_
  refine am_aload_n (pc := 2) 0 dX5_seekBest_2 rfl rfl ?_
  refine am_getI (pc := 3) (k := 7) cl5 sh15 (by decide) (by decide) f5_86 rfl dX5_seekBest_3 ?_
  refine am_icmp_gt (pc := 6) 10 dX5_seekBest_6 (by decide) (fun c => ?_) (fun c => ?_)
  · replace h := h.1 c
    refine am_iload_n (pc := 10) 1 dX5_seekBest_10 rfl rfl ?_
    refine am_aload_n (pc := 11) 0 dX5_seekBest_11 rfl rfl ?_
    refine am_getR (pc := 12) (k := 0) cl5 sh15 (by decide) (by decide) f5_24 rfl dX5_seekBest_12 ?_
    refine am_getI (pc := 15) (k := 4) cl1 sh1 (by decide) (by decide) f5_38 rfl dX5_seekBest_15 ?_
    refine am_icmp_lt (pc := 18) 42 dX5_seekBest_18 (by decide) (fun c => ?_) (fun c => ?_)
    · replace h := h.1 c
      refine am_aload_n (pc := 42) 0 dX5_seekBest_42 rfl rfl ?_
      refine am_getR (pc := 43) (k := 0) cl5 sh15 (by decide) (by decide) f5_24 rfl dX5_seekBest_43 ?_
      refine am_getR (pc := 46) (k := 9) cl1 sh1 (by decide) (by decide) f5_102 rfl dX5_seekBest_46 ?_
      refine am_iload_n (pc := 49) 1 dX5_seekBest_49 rfl rfl ?_
      refine am_iald (pc := 50) sh6 (by decide) h.1 dX5_seekBest_50 ?_
      replace h := h.2
      refine am_istoreE (pc := 51) (loc' := [.ref 15, .int v1, .int v2, .int v3, .int v4, .int (mem 6 v1.toNatClampNeg), .null, .null, .null, .null]) dX5_seekBest_51 (by decide) rfl rfl ?_
      refine am_iload_n (pc := 53) 2 dX5_seekBest_53 rfl rfl ?_
      refine am_iload_n (pc := 54) 1 dX5_seekBest_54 rfl rfl ?_
      refine am_callN (pc := 55) m6_boxesOf D 1 [.int v1] (rest := [.int v2]) ok6_boxesOf (by omega) rfl rfl l5_76 st6_boxesOf (Nat.le_of_ble_eq_true rfl) dX5_seekBest_55 ?_
      refine am_Ci.use h (fun r_1 mem_1 h => ?_)
      show am_J m5_seekBest (D + 1) 58 [.ref 15, .int v1, .int v2, .int v3, .int v4, .int (mem 6 v1.toNatClampNeg), .null, .null, .null, .null] [.int r_1, .int v2] mem_1 Q
      refine am_iconst (pc := 58) (v := -1) dX5_seekBest_58 rfl ?_
      refine am_ixor (pc := 59) dX5_seekBest_59 ?_
      refine am_iand (pc := 60) dX5_seekBest_60 ?_
      refine am_istoreE (pc := 61) (loc' := [.ref 15, .int v1, .int v2, .int v3, .int v4, .int (mem 6 v1.toNatClampNeg), .int (v2 &&& (r_1 ^^^ (-1 : Int32))), .null, .null, .null]) dX5_seekBest_61 (by decide) rfl rfl ?_
      refine am_iconst (pc := 63) (v := 0) dX5_seekBest_63 rfl ?_
      refine am_istoreE (pc := 64) (loc' := [.ref 15, .int v1, .int v2, .int v3, .int v4, .int (mem 6 v1.toNatClampNeg), .int (v2 &&& (r_1 ^^^ (-1 : Int32))), .int 0, .null, .null]) dX5_seekBest_64 (by decide) rfl rfl ?_
      exact h
    · replace h := h.2 c
      refine am_aload_n (pc := 21) 0 dX5_seekBest_21 rfl rfl ?_
      refine am_iload_n (pc := 22) 3 dX5_seekBest_22 rfl rfl ?_
      refine am_putI (pc := 23) (k := 7) cl5 sh15 (by decide) (by decide) f5_86 rfl rfl rfl dX5_seekBest_23 ?_
      refine am_aload_n (pc := 26) 0 dX5_seekBest_26 rfl rfl ?_
      refine am_getR (pc := 27) (k := 5) cl5 sh15 (by decide) (by decide) f5_18 rfl dX5_seekBest_27 ?_
      refine am_iconst (pc := 30) (v := 0) dX5_seekBest_30 rfl ?_
      refine am_aload_n (pc := 31) 0 dX5_seekBest_31 rfl rfl ?_
      refine am_getR (pc := 32) (k := 6) cl5 sh15 (by decide) (by decide) f5_21 rfl dX5_seekBest_32 ?_
      refine am_iconst (pc := 35) (v := 0) dX5_seekBest_35 rfl ?_
      refine am_bipush (pc := 36) (v := 8) dX5_seekBest_36 rfl ?_
      refine am_copy (pc := 38) l5_96 (by omega) (Nat.le_of_ble_eq_true rfl) sh18 sh19 (by decide) (by decide) (by decide) (by decide) (by decide) (by decide) (by decide) dX5_seekBest_38 ?_
      exact am_return rfl dX5_seekBest_41 h
  · replace h := h.2 c
    exact am_return rfl dX5_seekBest_9 h
set_option maxRecDepth 100000 in
set_option maxHeartbeats 4000000 in
theorem sg5_seekBest_66 {D : Nat} {mem : am_Mem} {Q : Option Value → am_Mem → Prop} {v1 : Int32} {v2 : Int32} {v3 : Int32} {v4 : Int32} {v5 : Int32} {v6 : Int32} {v7 : Int32} (h : (4 ≤ v7 → vp_in v1 8 ∧ (am_Cv m5_seekBest D [.ref 15, .int (v1 + (1 : Int32)), .int v6, .int v3, .int (v4 - v5)] (am_set mem 18 v1.toNatClampNeg (-9)) (fun mem_1 => Q none mem_1))) ∧ (¬ 4 ≤ v7 → am_Ci m6_boxOf D [.int v1, .int v7] mem (fun r_2 mem_2 => am_Ci m6_hasBit D [.int v2, .int r_2] mem_2 (fun r_3 mem_3 => (r_3 = 0 → am_J m5_seekBest (D + 1) 134 [.ref 15, .int v1, .int v2, .int v3, .int v4, .int v5, .int v6, .int v7, .null, .null] [] mem_3 Q) ∧ (¬ r_3 = 0 → vp_in r_2 32 ∧ (vp_in v1 8 ∧ (am_Cv m5_seekBest D [.ref 15, .int (v1 + (1 : Int32)), .int (v6 &&& ((mem_3 17 r_2.toNatClampNeg) ^^^ (-1 : Int32))), .int (v3 + v5), .int v4] (am_set mem_3 18 v1.toNatClampNeg v7) (fun mem_4 => (¬ (v6 &&& ((mem_3 17 r_2.toNatClampNeg) ^^^ (-1 : Int32))) = v6 → am_J m5_seekBest (D + 1) 134 [.ref 15, .int v1, .int v2, .int v3, .int v4, .int v5, .int v6, .int v7, .null, .null] [] mem_4 Q) ∧ ((v6 &&& ((mem_3 17 r_2.toNatClampNeg) ^^^ (-1 : Int32))) = v6 → Q none mem_4))))))))) : am_J m5_seekBest (D + 1) 66 [.ref 15, .int v1, .int v2, .int v3, .int v4, .int v5, .int v6, .int v7, .null, .null] [] mem Q := by
  refine am_iload (pc := 66) dX5_seekBest_66 rfl ?_
  refine am_iconst (pc := 68) (v := 4) dX5_seekBest_68 rfl ?_
  refine am_icmp_ge (pc := 69) 140 dX5_seekBest_69 (by decide) (fun c => ?_) (fun c => ?_)
  · replace h := h.1 c
    refine am_aload_n (pc := 140) 0 dX5_seekBest_140 rfl rfl ?_
    refine am_getR (pc := 141) (k := 5) cl5 sh15 (by decide) (by decide) f5_18 rfl dX5_seekBest_141 ?_
    refine am_iload_n (pc := 144) 1 dX5_seekBest_144 rfl rfl ?_
    refine am_bipush (pc := 145) (v := -9) dX5_seekBest_145 rfl ?_
    refine am_iast (pc := 147) sh18 (by decide) h.1 dX5_seekBest_147 ?_
    replace h := h.2
    refine am_aload_n (pc := 148) 0 dX5_seekBest_148 rfl rfl ?_
    refine am_iload_n (pc := 149) 1 dX5_seekBest_149 rfl rfl ?_
    refine am_iconst (pc := 150) (v := 1) dX5_seekBest_150 rfl ?_
    refine am_iadd (pc := 151) dX5_seekBest_151 ?_
    refine am_iload (pc := 152) dX5_seekBest_152 rfl ?_
    refine am_iload_n (pc := 154) 3 dX5_seekBest_154 rfl rfl ?_
    refine am_iload (pc := 155) dX5_seekBest_155 rfl ?_
    refine am_iload (pc := 157) dX5_seekBest_157 rfl ?_
    refine am_isub (pc := 159) dX5_seekBest_159 ?_
    refine am_callS (pc := 160) m5_seekBest D 5 [.ref 15, .int (v1 + (1 : Int32)), .int v6, .int v3, .int (v4 - v5)] (rest := []) ok5_seekBest (by omega) rfl rfl l5_92 st5_seekBest (Nat.le_of_ble_eq_true rfl) dX5_seekBest_160 ?_
    refine am_Cv.use h (fun mem_1 h => ?_)
    show am_J m5_seekBest (D + 1) 163 [.ref 15, .int v1, .int v2, .int v3, .int v4, .int v5, .int v6, .int v7, .null, .null] [] mem_1 Q
    exact am_return rfl dX5_seekBest_163 h
  · replace h := h.2 c
    refine am_iload_n (pc := 72) 1 dX5_seekBest_72 rfl rfl ?_
    refine am_iload (pc := 73) dX5_seekBest_73 rfl ?_
    refine am_callN (pc := 75) m6_boxOf D 2 [.int v1, .int v7] (rest := []) ok6_boxOf (by omega) rfl rfl l5_63 st6_boxOf (Nat.le_of_ble_eq_true rfl) dX5_seekBest_75 ?_
    refine am_Ci.use h (fun r_2 mem_2 h => ?_)
    show am_J m5_seekBest (D + 1) 78 [.ref 15, .int v1, .int v2, .int v3, .int v4, .int v5, .int v6, .int v7, .null, .null] [.int r_2] mem_2 Q
    refine am_istoreE (pc := 78) (loc' := [.ref 15, .int v1, .int v2, .int v3, .int v4, .int v5, .int v6, .int v7, .int r_2, .null]) dX5_seekBest_78 (by decide) rfl rfl ?_
    refine am_iload_n (pc := 80) 2 dX5_seekBest_80 rfl rfl ?_
    refine am_iload (pc := 81) dX5_seekBest_81 rfl ?_
    refine am_callN (pc := 83) m6_hasBit D 2 [.int v2, .int r_2] (rest := []) ok6_hasBit (by omega) rfl rfl l5_66 st6_hasBit (Nat.le_of_ble_eq_true rfl) dX5_seekBest_83 ?_
    refine am_Ci.use h (fun r_3 mem_3 h => ?_)
    show am_J m5_seekBest (D + 1) 86 [.ref 15, .int v1, .int v2, .int v3, .int v4, .int v5, .int v6, .int v7, .int r_2, .null] [.int r_3] mem_3 Q
    refine am_if_eq (pc := 86) 134 dX5_seekBest_86 (by decide) (fun c => ?_) (fun c => ?_)
    · replace h := h.1 c
      exact am_drop [8] h
    · replace h := h.2 c
      refine am_iload (pc := 89) dX5_seekBest_89 rfl ?_
      refine am_aload_n (pc := 91) 0 dX5_seekBest_91 rfl rfl ?_
      refine am_getR (pc := 92) (k := 3) cl5 sh15 (by decide) (by decide) f5_15 rfl dX5_seekBest_92 ?_
      refine am_iload (pc := 95) dX5_seekBest_95 rfl ?_
      refine am_iald (pc := 97) sh17 (by decide) h.1 dX5_seekBest_97 ?_
      replace h := h.2
      refine am_iconst (pc := 98) (v := -1) dX5_seekBest_98 rfl ?_
      refine am_ixor (pc := 99) dX5_seekBest_99 ?_
      refine am_iand (pc := 100) dX5_seekBest_100 ?_
      refine am_istoreE (pc := 101) (loc' := [.ref 15, .int v1, .int v2, .int v3, .int v4, .int v5, .int v6, .int v7, .int r_2, .int (v6 &&& ((mem_3 17 r_2.toNatClampNeg) ^^^ (-1 : Int32)))]) dX5_seekBest_101 (by decide) rfl rfl ?_
      refine am_aload_n (pc := 103) 0 dX5_seekBest_103 rfl rfl ?_
      refine am_getR (pc := 104) (k := 5) cl5 sh15 (by decide) (by decide) f5_18 rfl dX5_seekBest_104 ?_
      refine am_iload_n (pc := 107) 1 dX5_seekBest_107 rfl rfl ?_
      refine am_iload (pc := 108) dX5_seekBest_108 rfl ?_
      refine am_iast (pc := 110) sh18 (by decide) h.1 dX5_seekBest_110 ?_
      replace h := h.2
      refine am_aload_n (pc := 111) 0 dX5_seekBest_111 rfl rfl ?_
      refine am_iload_n (pc := 112) 1 dX5_seekBest_112 rfl rfl ?_
      refine am_iconst (pc := 113) (v := 1) dX5_seekBest_113 rfl ?_
      refine am_iadd (pc := 114) dX5_seekBest_114 ?_
      refine am_iload (pc := 115) dX5_seekBest_115 rfl ?_
      refine am_iload_n (pc := 117) 3 dX5_seekBest_117 rfl rfl ?_
      refine am_iload (pc := 118) dX5_seekBest_118 rfl ?_
      refine am_iadd (pc := 120) dX5_seekBest_120 ?_
      refine am_iload (pc := 121) dX5_seekBest_121 rfl ?_
      refine am_callS (pc := 123) m5_seekBest D 5 [.ref 15, .int (v1 + (1 : Int32)), .int (v6 &&& ((mem_3 17 r_2.toNatClampNeg) ^^^ (-1 : Int32))), .int (v3 + v5), .int v4] (rest := []) ok5_seekBest (by omega) rfl rfl l5_92 st5_seekBest (Nat.le_of_ble_eq_true rfl) dX5_seekBest_123 ?_
      refine am_Cv.use h (fun mem_4 h => ?_)
      show am_J m5_seekBest (D + 1) 126 [.ref 15, .int v1, .int v2, .int v3, .int v4, .int v5, .int v6, .int v7, .int r_2, .int (v6 &&& ((mem_3 17 r_2.toNatClampNeg) ^^^ (-1 : Int32)))] [] mem_4 Q
      refine am_iload (pc := 126) dX5_seekBest_126 rfl ?_
      refine am_iload (pc := 128) dX5_seekBest_128 rfl ?_
      refine am_icmp_ne (pc := 130) 134 dX5_seekBest_130 (by decide) (fun c => ?_) (fun c => ?_)
      · replace h := h.1 c
        exact am_drop [8, 9] h
      · replace h := h.2 c
        exact am_return rfl dX5_seekBest_133 h
set_option maxRecDepth 100000 in
set_option maxHeartbeats 4000000 in
theorem sg5_seekBest_134 {D : Nat} {mem : am_Mem} {Q : Option Value → am_Mem → Prop} {v1 : Int32} {v2 : Int32} {v3 : Int32} {v4 : Int32} {v5 : Int32} {v6 : Int32} {v7 : Int32} (h : am_J m5_seekBest (D + 1) 66 [.ref 15, .int v1, .int v2, .int v3, .int v4, .int v5, .int v6, .int (v7 + 1), .null, .null] [] mem Q) : am_J m5_seekBest (D + 1) 134 [.ref 15, .int v1, .int v2, .int v3, .int v4, .int v5, .int v6, .int v7, .null, .null] [] mem Q := by
  refine am_iincE (pc := 134) (v := 1) (loc' := [.ref 15, .int v1, .int v2, .int v3, .int v4, .int v5, .int v6, .int (v7 + 1), .null, .null]) dX5_seekBest_134 rfl rfl (by decide) rfl rfl ?_
  refine am_goto (pc := 137) 66 dX5_seekBest_137 (by decide) ?_
  exact h
set_option maxRecDepth 100000 in
set_option maxHeartbeats 4000000 in
theorem sg5_countFull_0 {D : Nat} {mem : am_Mem} {Q : Option Value → am_Mem → Prop}  (h : am_Ci m1_everySite D [.ref 1] mem (fun r_1 mem_1 => am_Ci m5_freeBoxes D [.ref 15, .int r_1] mem_1 (fun r_2 mem_2 => am_Ci m5_countFrom D [.ref 15, .int 0, .int r_2] mem_2 (fun r_3 mem_3 => Q (some (.int r_3)) mem_3)))) : am_J m5_countFull (D + 1) 0 [.ref 15] [] mem Q := by
  refine am_aload_n (pc := 0) 0 dX5_countFull_0 rfl rfl ?_
  refine am_iconst (pc := 1) (v := 0) dX5_countFull_1 rfl ?_
  refine am_aload_n (pc := 2) 0 dX5_countFull_2 rfl rfl ?_
  refine am_aload_n (pc := 3) 0 dX5_countFull_3 rfl rfl ?_
  refine am_getR (pc := 4) (k := 0) cl5 sh15 (by decide) (by decide) f5_24 rfl dX5_countFull_4 ?_
  refine am_callV (pc := 7) m1_everySite D 0 [] (rest := [.ref 15, .int 0, .ref 15]) ok1_everySite (by omega) rfl rfl sh1 (by decide) rfl l5_69 in1_everySite se1_everySite (Nat.le_of_ble_eq_true rfl) dX5_countFull_7 ?_
  refine am_Ci.use h (fun r_1 mem_1 h => ?_)
  show am_J m5_countFull (D + 1) 10 [.ref 15] [.int r_1, .ref 15, .int 0, .ref 15] mem_1 Q
  refine am_callV (pc := 10) m5_freeBoxes D 1 [.int r_1] (rest := [.int 0, .ref 15]) ok5_freeBoxes (by omega) rfl rfl sh15 (by decide) rfl l5_73 in5_freeBoxes se5_freeBoxes (Nat.le_of_ble_eq_true rfl) dX5_countFull_10 ?_
  refine am_Ci.use h (fun r_2 mem_2 h => ?_)
  show am_J m5_countFull (D + 1) 13 [.ref 15] [.int r_2, .int 0, .ref 15] mem_2 Q
  refine am_callS (pc := 13) m5_countFrom D 3 [.ref 15, .int 0, .int r_2] (rest := []) ok5_countFrom (by omega) rfl rfl l5_105 st5_countFrom (Nat.le_of_ble_eq_true rfl) dX5_countFull_13 ?_
  refine am_Ci.use h (fun r_3 mem_3 h => ?_)
  show am_J m5_countFull (D + 1) 16 [.ref 15] [.int r_3] mem_3 Q
  exact am_ireturn rfl dX5_countFull_16 h
set_option maxRecDepth 100000 in
set_option maxHeartbeats 4000000 in
theorem sg5_countFullWith_0 {D : Nat} {mem : am_Mem} {Q : Option Value → am_Mem → Prop} {v1 : Int32} {v2 : Int32} (h : am_Ci m5_freeBoxesWith D [.ref 15, .int v1, .int v2] mem (fun r_1 mem_1 => am_Ci m5_countFrom D [.ref 15, .int 0, .int r_1] mem_1 (fun r_2 mem_2 => Q (some (.int r_2)) mem_2))) : am_J m5_countFullWith (D + 1) 0 [.ref 15, .int v1, .int v2] [] mem Q := by
  refine am_aload_n (pc := 0) 0 dX5_countFullWith_0 rfl rfl ?_
  refine am_iconst (pc := 1) (v := 0) dX5_countFullWith_1 rfl ?_
  refine am_aload_n (pc := 2) 0 dX5_countFullWith_2 rfl rfl ?_
  refine am_iload_n (pc := 3) 1 dX5_countFullWith_3 rfl rfl ?_
  refine am_iload_n (pc := 4) 2 dX5_countFullWith_4 rfl rfl ?_
  refine am_callV (pc := 5) m5_freeBoxesWith D 2 [.int v1, .int v2] (rest := [.int 0, .ref 15]) ok5_freeBoxesWith (by omega) rfl rfl sh15 (by decide) rfl l5_109 in5_freeBoxesWith se5_freeBoxesWith (Nat.le_of_ble_eq_true rfl) dX5_countFullWith_5 ?_
  refine am_Ci.use h (fun r_1 mem_1 h => ?_)
  show am_J m5_countFullWith (D + 1) 8 [.ref 15, .int v1, .int v2] [.int r_1, .int 0, .ref 15] mem_1 Q
  refine am_callS (pc := 8) m5_countFrom D 3 [.ref 15, .int 0, .int r_1] (rest := []) ok5_countFrom (by omega) rfl rfl l5_105 st5_countFrom (Nat.le_of_ble_eq_true rfl) dX5_countFullWith_8 ?_
  refine am_Ci.use h (fun r_2 mem_2 h => ?_)
  show am_J m5_countFullWith (D + 1) 11 [.ref 15, .int v1, .int v2] [.int r_2] mem_2 Q
  exact am_ireturn rfl dX5_countFullWith_11 h
set_option maxRecDepth 100000 in
set_option maxHeartbeats 4000000 in
theorem sg5_countFrom_0 {D : Nat} {mem : am_Mem} {Q : Option Value → am_Mem → Prop} {v1 : Int32} {v2 : Int32} (h : (v1 < (mem 1 4) → am_Ci m6_boxesOf D [.int v1] mem (fun r_1 mem_1 => am_J m5_countFrom (D + 1) 31 [.ref 15, .int v1, .int v2, .int 0, .int 0, .int (v2 &&& (r_1 ^^^ (-1 : Int32))), .int 0, .null, .null] [] mem_1 Q)) ∧ (¬ v1 < (mem 1 4) → Q (some (.int 1)) mem)) : am_J m5_countFrom (D + 1) 0 [.ref 15, .int v1, .int v2, .null, .null, .null, .null, .null, .null] [] mem Q := by
  refine am_iload_n (pc := 0) 1 dX5_countFrom_0 rfl rfl ?_
  refine am_aload_n (pc := 1) 0 dX5_countFrom_1 rfl rfl ?_
  refine am_getR (pc := 2) (k := 0) cl5 sh15 (by decide) (by decide) f5_24 rfl dX5_countFrom_2 ?_
  refine am_getI (pc := 5) (k := 4) cl1 sh1 (by decide) (by decide) f5_38 rfl dX5_countFrom_5 ?_
  refine am_icmp_lt (pc := 8) 13 dX5_countFrom_8 (by decide) (fun c => ?_) (fun c => ?_)
  · replace h := h.1 c
    refine am_iconst (pc := 13) (v := 0) dX5_countFrom_13 rfl ?_
    refine am_istoreE_n (pc := 14) 3 (loc' := [.ref 15, .int v1, .int v2, .int 0, .null, .null, .null, .null, .null]) dX5_countFrom_14 rfl (by decide) rfl rfl ?_
    refine am_iconst (pc := 15) (v := 0) dX5_countFrom_15 rfl ?_
    refine am_istoreE (pc := 16) (loc' := [.ref 15, .int v1, .int v2, .int 0, .int 0, .null, .null, .null, .null]) dX5_countFrom_16 (by decide) rfl rfl ?_
    refine am_iload_n (pc := 18) 2 dX5_countFrom_18 rfl rfl ?_
    refine am_iload_n (pc := 19) 1 dX5_countFrom_19 rfl rfl ?_
    refine am_callN (pc := 20) m6_boxesOf D 1 [.int v1] (rest := [.int v2]) ok6_boxesOf (by omega) rfl rfl l5_76 st6_boxesOf (Nat.le_of_ble_eq_true rfl) dX5_countFrom_20 ?_
    refine am_Ci.use h (fun r_1 mem_1 h => ?_)
    show am_J m5_countFrom (D + 1) 23 [.ref 15, .int v1, .int v2, .int 0, .int 0, .null, .null, .null, .null] [.int r_1, .int v2] mem_1 Q
    refine am_iconst (pc := 23) (v := -1) dX5_countFrom_23 rfl ?_
    refine am_ixor (pc := 24) dX5_countFrom_24 ?_
    refine am_iand (pc := 25) dX5_countFrom_25 ?_
    refine am_istoreE (pc := 26) (loc' := [.ref 15, .int v1, .int v2, .int 0, .int 0, .int (v2 &&& (r_1 ^^^ (-1 : Int32))), .null, .null, .null]) dX5_countFrom_26 (by decide) rfl rfl ?_
    refine am_iconst (pc := 28) (v := 0) dX5_countFrom_28 rfl ?_
    refine am_istoreE (pc := 29) (loc' := [.ref 15, .int v1, .int v2, .int 0, .int 0, .int (v2 &&& (r_1 ^^^ (-1 : Int32))), .int 0, .null, .null]) dX5_countFrom_29 (by decide) rfl rfl ?_
    exact h
  · replace h := h.2 c
    refine am_iconst (pc := 11) (v := 1) dX5_countFrom_11 rfl ?_
    exact am_ireturn rfl dX5_countFrom_12 h
set_option maxRecDepth 100000 in
set_option maxHeartbeats 4000000 in
theorem sg5_countFrom_31 {D : Nat} {mem : am_Mem} {Q : Option Value → am_Mem → Prop} {v1 : Int32} {v2 : Int32} {v3 : Int32} {v4 : Int32} {v5 : Int32} {v6 : Int32} (h : (4 ≤ v6 → (v4 ≤ 0 → Q (some (.int v3)) mem) ∧ (¬ v4 ≤ 0 → am_Ci m5_countFrom D [.ref 15, .int (v1 + (1 : Int32)), .int v5] mem (fun r_1 mem_1 => Q (some (.int (v3 + (v4 * r_1)))) mem_1))) ∧ (¬ 4 ≤ v6 → am_Ci m6_boxOf D [.int v1, .int v6] mem (fun r_2 mem_2 => am_Ci m6_hasBit D [.int v2, .int r_2] mem_2 (fun r_3 mem_3 => (r_3 = 0 → am_J m5_countFrom (D + 1) 93 [.ref 15, .int v1, .int v2, .int v3, .int v4, .int v5, .int v6, .null, .null] [] mem_3 Q) ∧ (¬ r_3 = 0 → vp_in r_2 32 ∧ ((¬ (v5 &&& ((mem_3 17 r_2.toNatClampNeg) ^^^ (-1 : Int32))) = v5 → am_Ci m5_countFrom D [.ref 15, .int (v1 + (1 : Int32)), .int (v5 &&& ((mem_3 17 r_2.toNatClampNeg) ^^^ (-1 : Int32)))] mem_3 (fun r_4 mem_4 => am_J m5_countFrom (D + 1) 93 [.ref 15, .int v1, .int v2, .int (v3 + r_4), .int v4, .int v5, .int v6, .null, .null] [] mem_4 Q)) ∧ ((v5 &&& ((mem_3 17 r_2.toNatClampNeg) ^^^ (-1 : Int32))) = v5 → am_J m5_countFrom (D + 1) 93 [.ref 15, .int v1, .int v2, .int v3, .int (v4 + 1), .int v5, .int v6, .null, .null] [] mem_3 Q))))))) : am_J m5_countFrom (D + 1) 31 [.ref 15, .int v1, .int v2, .int v3, .int v4, .int v5, .int v6, .null, .null] [] mem Q := by
  refine am_iload (pc := 31) dX5_countFrom_31 rfl ?_
  refine am_iconst (pc := 33) (v := 4) dX5_countFrom_33 rfl ?_
  refine am_icmp_ge (pc := 34) 99 dX5_countFrom_34 (by decide) (fun c => ?_) (fun c => ?_)
  · replace h := h.1 c
    refine am_iload (pc := 99) dX5_countFrom_99 rfl ?_
    refine am_if_le (pc := 101) 121 dX5_countFrom_101 (by decide) (fun c => ?_) (fun c => ?_)
    · replace h := h.1 c
      refine am_iload_n (pc := 121) 3 dX5_countFrom_121 rfl rfl ?_
      exact am_ireturn rfl dX5_countFrom_122 h
    · replace h := h.2 c
      refine am_iload_n (pc := 104) 3 dX5_countFrom_104 rfl rfl ?_
      refine am_iload (pc := 105) dX5_countFrom_105 rfl ?_
      refine am_aload_n (pc := 107) 0 dX5_countFrom_107 rfl rfl ?_
      refine am_iload_n (pc := 108) 1 dX5_countFrom_108 rfl rfl ?_
      refine am_iconst (pc := 109) (v := 1) dX5_countFrom_109 rfl ?_
      refine am_iadd (pc := 110) dX5_countFrom_110 ?_
      refine am_iload (pc := 111) dX5_countFrom_111 rfl ?_
      refine am_callS (pc := 113) m5_countFrom D 3 [.ref 15, .int (v1 + (1 : Int32)), .int v5] (rest := [.int v4, .int v3]) ok5_countFrom (by omega) rfl rfl l5_105 st5_countFrom (Nat.le_of_ble_eq_true rfl) dX5_countFrom_113 ?_
      refine am_Ci.use h (fun r_1 mem_1 h => ?_)
      show am_J m5_countFrom (D + 1) 116 [.ref 15, .int v1, .int v2, .int v3, .int v4, .int v5, .int v6, .null, .null] [.int r_1, .int v4, .int v3] mem_1 Q
      refine am_imul (pc := 116) dX5_countFrom_116 ?_
      refine am_iadd (pc := 117) dX5_countFrom_117 ?_
      refine am_goto (pc := 118) 122 dX5_countFrom_118 (by decide) ?_
      exact am_ireturn rfl dX5_countFrom_122 h
  · replace h := h.2 c
    refine am_iload_n (pc := 37) 1 dX5_countFrom_37 rfl rfl ?_
    refine am_iload (pc := 38) dX5_countFrom_38 rfl ?_
    refine am_callN (pc := 40) m6_boxOf D 2 [.int v1, .int v6] (rest := []) ok6_boxOf (by omega) rfl rfl l5_63 st6_boxOf (Nat.le_of_ble_eq_true rfl) dX5_countFrom_40 ?_
    refine am_Ci.use h (fun r_2 mem_2 h => ?_)
    show am_J m5_countFrom (D + 1) 43 [.ref 15, .int v1, .int v2, .int v3, .int v4, .int v5, .int v6, .null, .null] [.int r_2] mem_2 Q
    refine am_istoreE (pc := 43) (loc' := [.ref 15, .int v1, .int v2, .int v3, .int v4, .int v5, .int v6, .int r_2, .null]) dX5_countFrom_43 (by decide) rfl rfl ?_
    refine am_iload_n (pc := 45) 2 dX5_countFrom_45 rfl rfl ?_
    refine am_iload (pc := 46) dX5_countFrom_46 rfl ?_
    refine am_callN (pc := 48) m6_hasBit D 2 [.int v2, .int r_2] (rest := []) ok6_hasBit (by omega) rfl rfl l5_66 st6_hasBit (Nat.le_of_ble_eq_true rfl) dX5_countFrom_48 ?_
    refine am_Ci.use h (fun r_3 mem_3 h => ?_)
    show am_J m5_countFrom (D + 1) 51 [.ref 15, .int v1, .int v2, .int v3, .int v4, .int v5, .int v6, .int r_2, .null] [.int r_3] mem_3 Q
    refine am_if_eq (pc := 51) 93 dX5_countFrom_51 (by decide) (fun c => ?_) (fun c => ?_)
    · replace h := h.1 c
      exact am_drop [7] h
    · replace h := h.2 c
      refine am_iload (pc := 54) dX5_countFrom_54 rfl ?_
      refine am_aload_n (pc := 56) 0 dX5_countFrom_56 rfl rfl ?_
      refine am_getR (pc := 57) (k := 3) cl5 sh15 (by decide) (by decide) f5_15 rfl dX5_countFrom_57 ?_
      refine am_iload (pc := 60) dX5_countFrom_60 rfl ?_
      refine am_iald (pc := 62) sh17 (by decide) h.1 dX5_countFrom_62 ?_
      replace h := h.2
      refine am_iconst (pc := 63) (v := -1) dX5_countFrom_63 rfl ?_
      refine am_ixor (pc := 64) dX5_countFrom_64 ?_
      refine am_iand (pc := 65) dX5_countFrom_65 ?_
      refine am_istoreE (pc := 66) (loc' := [.ref 15, .int v1, .int v2, .int v3, .int v4, .int v5, .int v6, .int r_2, .int (v5 &&& ((mem_3 17 r_2.toNatClampNeg) ^^^ (-1 : Int32)))]) dX5_countFrom_66 (by decide) rfl rfl ?_
      refine am_iload (pc := 68) dX5_countFrom_68 rfl ?_
      refine am_iload (pc := 70) dX5_countFrom_70 rfl ?_
      refine am_icmp_ne (pc := 72) 81 dX5_countFrom_72 (by decide) (fun c => ?_) (fun c => ?_)
      · replace h := h.1 c
        refine am_iload_n (pc := 81) 3 dX5_countFrom_81 rfl rfl ?_
        refine am_aload_n (pc := 82) 0 dX5_countFrom_82 rfl rfl ?_
        refine am_iload_n (pc := 83) 1 dX5_countFrom_83 rfl rfl ?_
        refine am_iconst (pc := 84) (v := 1) dX5_countFrom_84 rfl ?_
        refine am_iadd (pc := 85) dX5_countFrom_85 ?_
        refine am_iload (pc := 86) dX5_countFrom_86 rfl ?_
        refine am_callS (pc := 88) m5_countFrom D 3 [.ref 15, .int (v1 + (1 : Int32)), .int (v5 &&& ((mem_3 17 r_2.toNatClampNeg) ^^^ (-1 : Int32)))] (rest := [.int v3]) ok5_countFrom (by omega) rfl rfl l5_105 st5_countFrom (Nat.le_of_ble_eq_true rfl) dX5_countFrom_88 ?_
        refine am_Ci.use h (fun r_4 mem_4 h => ?_)
        show am_J m5_countFrom (D + 1) 91 [.ref 15, .int v1, .int v2, .int v3, .int v4, .int v5, .int v6, .int r_2, .int (v5 &&& ((mem_3 17 r_2.toNatClampNeg) ^^^ (-1 : Int32)))] [.int r_4, .int v3] mem_4 Q
        refine am_iadd (pc := 91) dX5_countFrom_91 ?_
        refine am_istoreE_n (pc := 92) 3 (loc' := [.ref 15, .int v1, .int v2, .int (v3 + r_4), .int v4, .int v5, .int v6, .int r_2, .int (v5 &&& ((mem_3 17 r_2.toNatClampNeg) ^^^ (-1 : Int32)))]) dX5_countFrom_92 rfl (by decide) rfl rfl ?_
        exact am_drop [7, 8] h
      · replace h := h.2 c
        refine am_iincE (pc := 75) (v := 1) (loc' := [.ref 15, .int v1, .int v2, .int v3, .int (v4 + 1), .int v5, .int v6, .int r_2, .int (v5 &&& ((mem_3 17 r_2.toNatClampNeg) ^^^ (-1 : Int32)))]) dX5_countFrom_75 rfl rfl (by decide) rfl rfl ?_
        refine am_goto (pc := 78) 93 dX5_countFrom_78 (by decide) ?_
        exact am_drop [7, 8] h
set_option maxRecDepth 100000 in
set_option maxHeartbeats 4000000 in
theorem sg5_countFrom_93 {D : Nat} {mem : am_Mem} {Q : Option Value → am_Mem → Prop} {v1 : Int32} {v2 : Int32} {v3 : Int32} {v4 : Int32} {v5 : Int32} {v6 : Int32} (h : am_J m5_countFrom (D + 1) 31 [.ref 15, .int v1, .int v2, .int v3, .int v4, .int v5, .int (v6 + 1), .null, .null] [] mem Q) : am_J m5_countFrom (D + 1) 93 [.ref 15, .int v1, .int v2, .int v3, .int v4, .int v5, .int v6, .null, .null] [] mem Q := by
  refine am_iincE (pc := 93) (v := 1) (loc' := [.ref 15, .int v1, .int v2, .int v3, .int v4, .int v5, .int (v6 + 1), .null, .null]) dX5_countFrom_93 rfl rfl (by decide) rfl rfl ?_
  refine am_goto (pc := 96) 31 dX5_countFrom_96 (by decide) ?_
  exact h
set_option maxRecDepth 100000 in
set_option maxHeartbeats 4000000 in
theorem sg5_isThereFull_0 {D : Nat} {mem : am_Mem} {Q : Option Value → am_Mem → Prop} {v1 : Int32} (h : am_Ci m5_freeBoxes D [.ref 15, .int v1] mem (fun r_1 mem_1 => am_Ci m5_isFullFrom D [.ref 15, .int 0, .int v1, .int r_1] mem_1 (fun r_2 mem_2 => (r_2 = 0 ∨ r_2 = 1) ∧ Q (some (.int r_2)) mem_2))) : am_J m5_isThereFull (D + 1) 0 [.ref 15, .int v1] [] mem Q := by
  refine am_aload_n (pc := 0) 0 dX5_isThereFull_0 rfl rfl ?_
  refine am_iconst (pc := 1) (v := 0) dX5_isThereFull_1 rfl ?_
  refine am_iload_n (pc := 2) 1 dX5_isThereFull_2 rfl rfl ?_
  refine am_aload_n (pc := 3) 0 dX5_isThereFull_3 rfl rfl ?_
  refine am_iload_n (pc := 4) 1 dX5_isThereFull_4 rfl rfl ?_
  refine am_callV (pc := 5) m5_freeBoxes D 1 [.int v1] (rest := [.int v1, .int 0, .ref 15]) ok5_freeBoxes (by omega) rfl rfl sh15 (by decide) rfl l5_73 in5_freeBoxes se5_freeBoxes (Nat.le_of_ble_eq_true rfl) dX5_isThereFull_5 ?_
  refine am_Ci.use h (fun r_1 mem_1 h => ?_)
  show am_J m5_isThereFull (D + 1) 8 [.ref 15, .int v1] [.int r_1, .int v1, .int 0, .ref 15] mem_1 Q
  refine am_callS (pc := 8) m5_isFullFrom D 4 [.ref 15, .int 0, .int v1, .int r_1] (rest := []) ok5_isFullFrom (by omega) rfl rfl l5_112 st5_isFullFrom (Nat.le_of_ble_eq_true rfl) dX5_isThereFull_8 ?_
  refine am_Ci.use h (fun r_2 mem_2 h => ?_)
  show am_J m5_isThereFull (D + 1) 11 [.ref 15, .int v1] [.int r_2] mem_2 Q
  exact am_zreturn rfl h.1 dX5_isThereFull_11 h.2
set_option maxRecDepth 100000 in
set_option maxHeartbeats 4000000 in
theorem sg5_isThereFullWith_0 {D : Nat} {mem : am_Mem} {Q : Option Value → am_Mem → Prop} {v1 : Int32} {v2 : Int32} (h : am_Ci m1_everySite D [.ref 1] mem (fun r_1 mem_1 => am_Ci m5_freeBoxesWith D [.ref 15, .int v1, .int v2] mem_1 (fun r_2 mem_2 => am_Ci m5_isFullFrom D [.ref 15, .int 0, .int r_1, .int r_2] mem_2 (fun r_3 mem_3 => (r_3 = 0 ∨ r_3 = 1) ∧ Q (some (.int r_3)) mem_3)))) : am_J m5_isThereFullWith (D + 1) 0 [.ref 15, .int v1, .int v2] [] mem Q := by
  refine am_aload_n (pc := 0) 0 dX5_isThereFullWith_0 rfl rfl ?_
  refine am_iconst (pc := 1) (v := 0) dX5_isThereFullWith_1 rfl ?_
  refine am_aload_n (pc := 2) 0 dX5_isThereFullWith_2 rfl rfl ?_
  refine am_getR (pc := 3) (k := 0) cl5 sh15 (by decide) (by decide) f5_24 rfl dX5_isThereFullWith_3 ?_
  refine am_callV (pc := 6) m1_everySite D 0 [] (rest := [.int 0, .ref 15]) ok1_everySite (by omega) rfl rfl sh1 (by decide) rfl l5_69 in1_everySite se1_everySite (Nat.le_of_ble_eq_true rfl) dX5_isThereFullWith_6 ?_
  refine am_Ci.use h (fun r_1 mem_1 h => ?_)
  show am_J m5_isThereFullWith (D + 1) 9 [.ref 15, .int v1, .int v2] [.int r_1, .int 0, .ref 15] mem_1 Q
  refine am_aload_n (pc := 9) 0 dX5_isThereFullWith_9 rfl rfl ?_
  refine am_iload_n (pc := 10) 1 dX5_isThereFullWith_10 rfl rfl ?_
  refine am_iload_n (pc := 11) 2 dX5_isThereFullWith_11 rfl rfl ?_
  refine am_callV (pc := 12) m5_freeBoxesWith D 2 [.int v1, .int v2] (rest := [.int r_1, .int 0, .ref 15]) ok5_freeBoxesWith (by omega) rfl rfl sh15 (by decide) rfl l5_109 in5_freeBoxesWith se5_freeBoxesWith (Nat.le_of_ble_eq_true rfl) dX5_isThereFullWith_12 ?_
  refine am_Ci.use h (fun r_2 mem_2 h => ?_)
  show am_J m5_isThereFullWith (D + 1) 15 [.ref 15, .int v1, .int v2] [.int r_2, .int r_1, .int 0, .ref 15] mem_2 Q
  refine am_callS (pc := 15) m5_isFullFrom D 4 [.ref 15, .int 0, .int r_1, .int r_2] (rest := []) ok5_isFullFrom (by omega) rfl rfl l5_112 st5_isFullFrom (Nat.le_of_ble_eq_true rfl) dX5_isThereFullWith_15 ?_
  refine am_Ci.use h (fun r_3 mem_3 h => ?_)
  show am_J m5_isThereFullWith (D + 1) 18 [.ref 15, .int v1, .int v2] [.int r_3] mem_3 Q
  exact am_zreturn rfl h.1 dX5_isThereFullWith_18 h.2
set_option maxRecDepth 100000 in
set_option maxHeartbeats 4000000 in
theorem sg5_isFullFrom_0 {D : Nat} {mem : am_Mem} {Q : Option Value → am_Mem → Prop} {v1 : Int32} {v2 : Int32} {v3 : Int32} (h : (v1 < (mem 1 4) → am_Ci m6_hasBit D [.int v2, .int v1] mem (fun r_1 mem_1 => (¬ r_1 = 0 → am_Ci m6_boxesOf D [.int v1] mem_1 (fun r_2 mem_2 => am_J m5_isFullFrom (D + 1) 44 [.ref 15, .int v1, .int v2, .int v3, .int (v3 &&& (r_2 ^^^ (-1 : Int32))), .int 0, .null, .null, .null] [] mem_2 Q)) ∧ (r_1 = 0 → am_Ci m5_isFullFrom D [.ref 15, .int (v1 + (1 : Int32)), .int v2, .int v3] mem_1 (fun r_3 mem_3 => (r_3 = 0 ∨ r_3 = 1) ∧ Q (some (.int r_3)) mem_3)))) ∧ (¬ v1 < (mem 1 4) → Q (some (.int 1)) mem)) : am_J m5_isFullFrom (D + 1) 0 [.ref 15, .int v1, .int v2, .int v3, .null, .null, .null, .null, .null] [] mem Q := by
  refine am_iload_n (pc := 0) 1 dX5_isFullFrom_0 rfl rfl ?_
  refine am_aload_n (pc := 1) 0 dX5_isFullFrom_1 rfl rfl ?_
  refine am_getR (pc := 2) (k := 0) cl5 sh15 (by decide) (by decide) f5_24 rfl dX5_isFullFrom_2 ?_
  refine am_getI (pc := 5) (k := 4) cl1 sh1 (by decide) (by decide) f5_38 rfl dX5_isFullFrom_5 ?_
  refine am_icmp_lt (pc := 8) 13 dX5_isFullFrom_8 (by decide) (fun c => ?_) (fun c => ?_)
  · replace h := h.1 c
    refine am_iload_n (pc := 13) 2 dX5_isFullFrom_13 rfl rfl ?_
    refine am_iload_n (pc := 14) 1 dX5_isFullFrom_14 rfl rfl ?_
    refine am_callN (pc := 15) m6_hasBit D 2 [.int v2, .int v1] (rest := []) ok6_hasBit (by omega) rfl rfl l5_66 st6_hasBit (Nat.le_of_ble_eq_true rfl) dX5_isFullFrom_15 ?_
    refine am_Ci.use h (fun r_1 mem_1 h => ?_)
    show am_J m5_isFullFrom (D + 1) 18 [.ref 15, .int v1, .int v2, .int v3, .null, .null, .null, .null, .null] [.int r_1] mem_1 Q
    refine am_if_ne (pc := 18) 31 dX5_isFullFrom_18 (by decide) (fun c => ?_) (fun c => ?_)
    · replace h := h.1 c
      refine am_iload_n (pc := 31) 3 dX5_isFullFrom_31 rfl rfl ?_
      refine am_iload_n (pc := 32) 1 dX5_isFullFrom_32 rfl rfl ?_
      refine am_callN (pc := 33) m6_boxesOf D 1 [.int v1] (rest := [.int v3]) ok6_boxesOf (by omega) rfl rfl l5_76 st6_boxesOf (Nat.le_of_ble_eq_true rfl) dX5_isFullFrom_33 ?_
      refine am_Ci.use h (fun r_2 mem_2 h => ?_)
      show am_J m5_isFullFrom (D + 1) 36 [.ref 15, .int v1, .int v2, .int v3, .null, .null, .null, .null, .null] [.int r_2, .int v3] mem_2 Q
      refine am_iconst (pc := 36) (v := -1) dX5_isFullFrom_36 rfl ?_
      refine am_ixor (pc := 37) dX5_isFullFrom_37 ?_
      refine am_iand (pc := 38) dX5_isFullFrom_38 ?_
      refine am_istoreE (pc := 39) (loc' := [.ref 15, .int v1, .int v2, .int v3, .int (v3 &&& (r_2 ^^^ (-1 : Int32))), .null, .null, .null, .null]) dX5_isFullFrom_39 (by decide) rfl rfl ?_
      refine am_iconst (pc := 41) (v := 0) dX5_isFullFrom_41 rfl ?_
      refine am_istoreE (pc := 42) (loc' := [.ref 15, .int v1, .int v2, .int v3, .int (v3 &&& (r_2 ^^^ (-1 : Int32))), .int 0, .null, .null, .null]) dX5_isFullFrom_42 (by decide) rfl rfl ?_
      exact h
    · replace h := h.2 c
      refine am_aload_n (pc := 21) 0 dX5_isFullFrom_21 rfl rfl ?_
      refine am_iload_n (pc := 22) 1 dX5_isFullFrom_22 rfl rfl ?_
      refine am_iconst (pc := 23) (v := 1) dX5_isFullFrom_23 rfl ?_
      refine am_iadd (pc := 24) dX5_isFullFrom_24 ?_
      refine am_iload_n (pc := 25) 2 dX5_isFullFrom_25 rfl rfl ?_
      refine am_iload_n (pc := 26) 3 dX5_isFullFrom_26 rfl rfl ?_
      refine am_callS (pc := 27) m5_isFullFrom D 4 [.ref 15, .int (v1 + (1 : Int32)), .int v2, .int v3] (rest := []) ok5_isFullFrom (by omega) rfl rfl l5_112 st5_isFullFrom (Nat.le_of_ble_eq_true rfl) dX5_isFullFrom_27 ?_
      refine am_Ci.use h (fun r_3 mem_3 h => ?_)
      show am_J m5_isFullFrom (D + 1) 30 [.ref 15, .int v1, .int v2, .int v3, .null, .null, .null, .null, .null] [.int r_3] mem_3 Q
      exact am_zreturn rfl h.1 dX5_isFullFrom_30 h.2
  · replace h := h.2 c
    refine am_iconst (pc := 11) (v := 1) dX5_isFullFrom_11 rfl ?_
    exact am_zreturn rfl (by decide) dX5_isFullFrom_12 h
set_option maxRecDepth 100000 in
set_option maxHeartbeats 4000000 in
theorem sg5_isFullFrom_44 {D : Nat} {mem : am_Mem} {Q : Option Value → am_Mem → Prop} {v1 : Int32} {v2 : Int32} {v3 : Int32} {v4 : Int32} {v5 : Int32} (h : (4 ≤ v5 → Q (some (.int 0)) mem) ∧ (¬ 4 ≤ v5 → am_Ci m6_boxOf D [.int v1, .int v5] mem (fun r_1 mem_1 => am_Ci m6_hasBit D [.int v3, .int r_1] mem_1 (fun r_2 mem_2 => (r_2 = 0 → am_J m5_isFullFrom (D + 1) 108 [.ref 15, .int v1, .int v2, .int v3, .int v4, .int v5, .null, .null, .null] [] mem_2 Q) ∧ (¬ r_2 = 0 → vp_in r_1 32 ∧ (am_Ci m5_isFullFrom D [.ref 15, .int (v1 + (1 : Int32)), .int v2, .int (v4 &&& ((mem_2 17 r_1.toNatClampNeg) ^^^ (-1 : Int32)))] mem_2 (fun r_3 mem_3 => (¬ r_3 = 0 → (r_3 = 0 ∨ r_3 = 1) ∧ Q (some (.int r_3)) mem_3) ∧ (r_3 = 0 → (¬ (v4 &&& ((mem_2 17 r_1.toNatClampNeg) ^^^ (-1 : Int32))) = v4 → am_J m5_isFullFrom (D + 1) 108 [.ref 15, .int v1, .int v2, .int v3, .int v4, .int v5, .null, .null, .null] [] mem_3 Q) ∧ ((v4 &&& ((mem_2 17 r_1.toNatClampNeg) ^^^ (-1 : Int32))) = v4 → (r_3 = 0 ∨ r_3 = 1) ∧ Q (some (.int r_3)) mem_3))))))))) : am_J m5_isFullFrom (D + 1) 44 [.ref 15, .int v1, .int v2, .int v3, .int v4, .int v5, .null, .null, .null] [] mem Q := by
  refine am_iload (pc := 44) dX5_isFullFrom_44 rfl ?_
  refine am_iconst (pc := 46) (v := 4) dX5_isFullFrom_46 rfl ?_
  refine am_icmp_ge (pc := 47) 114 dX5_isFullFrom_47 (by decide) (fun c => ?_) (fun c => ?_)
  · replace h := h.1 c
    refine am_iconst (pc := 114) (v := 0) dX5_isFullFrom_114 rfl ?_
    exact am_zreturn rfl (by decide) dX5_isFullFrom_115 h
  · replace h := h.2 c
    refine am_iload_n (pc := 50) 1 dX5_isFullFrom_50 rfl rfl ?_
    refine am_iload (pc := 51) dX5_isFullFrom_51 rfl ?_
    refine am_callN (pc := 53) m6_boxOf D 2 [.int v1, .int v5] (rest := []) ok6_boxOf (by omega) rfl rfl l5_63 st6_boxOf (Nat.le_of_ble_eq_true rfl) dX5_isFullFrom_53 ?_
    refine am_Ci.use h (fun r_1 mem_1 h => ?_)
    show am_J m5_isFullFrom (D + 1) 56 [.ref 15, .int v1, .int v2, .int v3, .int v4, .int v5, .null, .null, .null] [.int r_1] mem_1 Q
    refine am_istoreE (pc := 56) (loc' := [.ref 15, .int v1, .int v2, .int v3, .int v4, .int v5, .int r_1, .null, .null]) dX5_isFullFrom_56 (by decide) rfl rfl ?_
    refine am_iload_n (pc := 58) 3 dX5_isFullFrom_58 rfl rfl ?_
    refine am_iload (pc := 59) dX5_isFullFrom_59 rfl ?_
    refine am_callN (pc := 61) m6_hasBit D 2 [.int v3, .int r_1] (rest := []) ok6_hasBit (by omega) rfl rfl l5_66 st6_hasBit (Nat.le_of_ble_eq_true rfl) dX5_isFullFrom_61 ?_
    refine am_Ci.use h (fun r_2 mem_2 h => ?_)
    show am_J m5_isFullFrom (D + 1) 64 [.ref 15, .int v1, .int v2, .int v3, .int v4, .int v5, .int r_1, .null, .null] [.int r_2] mem_2 Q
    refine am_if_eq (pc := 64) 108 dX5_isFullFrom_64 (by decide) (fun c => ?_) (fun c => ?_)
    · replace h := h.1 c
      exact am_drop [6] h
    · replace h := h.2 c
      refine am_iload (pc := 67) dX5_isFullFrom_67 rfl ?_
      refine am_aload_n (pc := 69) 0 dX5_isFullFrom_69 rfl rfl ?_
      refine am_getR (pc := 70) (k := 3) cl5 sh15 (by decide) (by decide) f5_15 rfl dX5_isFullFrom_70 ?_
      refine am_iload (pc := 73) dX5_isFullFrom_73 rfl ?_
      refine am_iald (pc := 75) sh17 (by decide) h.1 dX5_isFullFrom_75 ?_
      replace h := h.2
      refine am_iconst (pc := 76) (v := -1) dX5_isFullFrom_76 rfl ?_
      refine am_ixor (pc := 77) dX5_isFullFrom_77 ?_
      refine am_iand (pc := 78) dX5_isFullFrom_78 ?_
      refine am_istoreE (pc := 79) (loc' := [.ref 15, .int v1, .int v2, .int v3, .int v4, .int v5, .int r_1, .int (v4 &&& ((mem_2 17 r_1.toNatClampNeg) ^^^ (-1 : Int32))), .null]) dX5_isFullFrom_79 (by decide) rfl rfl ?_
      refine am_aload_n (pc := 81) 0 dX5_isFullFrom_81 rfl rfl ?_
      refine am_iload_n (pc := 82) 1 dX5_isFullFrom_82 rfl rfl ?_
      refine am_iconst (pc := 83) (v := 1) dX5_isFullFrom_83 rfl ?_
      refine am_iadd (pc := 84) dX5_isFullFrom_84 ?_
      refine am_iload_n (pc := 85) 2 dX5_isFullFrom_85 rfl rfl ?_
      refine am_iload (pc := 86) dX5_isFullFrom_86 rfl ?_
      refine am_callS (pc := 88) m5_isFullFrom D 4 [.ref 15, .int (v1 + (1 : Int32)), .int v2, .int (v4 &&& ((mem_2 17 r_1.toNatClampNeg) ^^^ (-1 : Int32)))] (rest := []) ok5_isFullFrom (by omega) rfl rfl l5_112 st5_isFullFrom (Nat.le_of_ble_eq_true rfl) dX5_isFullFrom_88 ?_
      refine am_Ci.use h (fun r_3 mem_3 h => ?_)
      show am_J m5_isFullFrom (D + 1) 91 [.ref 15, .int v1, .int v2, .int v3, .int v4, .int v5, .int r_1, .int (v4 &&& ((mem_2 17 r_1.toNatClampNeg) ^^^ (-1 : Int32))), .null] [.int r_3] mem_3 Q
      refine am_istoreE (pc := 91) (loc' := [.ref 15, .int v1, .int v2, .int v3, .int v4, .int v5, .int r_1, .int (v4 &&& ((mem_2 17 r_1.toNatClampNeg) ^^^ (-1 : Int32))), .int r_3]) dX5_isFullFrom_91 (by decide) rfl rfl ?_
      refine am_iload (pc := 93) dX5_isFullFrom_93 rfl ?_
      refine am_if_ne (pc := 95) 105 dX5_isFullFrom_95 (by decide) (fun c => ?_) (fun c => ?_)
      · replace h := h.1 c
        refine am_iload (pc := 105) dX5_isFullFrom_105 rfl ?_
        exact am_zreturn rfl h.1 dX5_isFullFrom_107 h.2
      · replace h := h.2 c
        refine am_iload (pc := 98) dX5_isFullFrom_98 rfl ?_
        refine am_iload (pc := 100) dX5_isFullFrom_100 rfl ?_
        refine am_icmp_ne (pc := 102) 108 dX5_isFullFrom_102 (by decide) (fun c => ?_) (fun c => ?_)
        · replace h := h.1 c
          exact am_drop [6, 7, 8] h
        · replace h := h.2 c
          refine am_iload (pc := 105) dX5_isFullFrom_105 rfl ?_
          exact am_zreturn rfl h.1 dX5_isFullFrom_107 h.2
set_option maxRecDepth 100000 in
set_option maxHeartbeats 4000000 in
theorem sg5_isFullFrom_108 {D : Nat} {mem : am_Mem} {Q : Option Value → am_Mem → Prop} {v1 : Int32} {v2 : Int32} {v3 : Int32} {v4 : Int32} {v5 : Int32} (h : am_J m5_isFullFrom (D + 1) 44 [.ref 15, .int v1, .int v2, .int v3, .int v4, .int (v5 + 1), .null, .null, .null] [] mem Q) : am_J m5_isFullFrom (D + 1) 108 [.ref 15, .int v1, .int v2, .int v3, .int v4, .int v5, .null, .null, .null] [] mem Q := by
  refine am_iincE (pc := 108) (v := 1) (loc' := [.ref 15, .int v1, .int v2, .int v3, .int v4, .int (v5 + 1), .null, .null, .null]) dX5_isFullFrom_108 rfl rfl (by decide) rfl rfl ?_
  refine am_goto (pc := 111) 44 dX5_isFullFrom_111 (by decide) ?_
  exact h
set_option maxRecDepth 100000 in
set_option maxHeartbeats 4000000 in
theorem sg5_countClashes_0 {D : Nat} {mem : am_Mem} {Q : Option Value → am_Mem → Prop} {v1 : Int32} (h : am_J m5_countClashes (D + 1) 4 [.ref 15, .int v1, .int 0, .int 0] [] mem Q) : am_J m5_countClashes (D + 1) 0 [.ref 15, .int v1, .null, .null] [] mem Q := by
  refine am_iconst (pc := 0) (v := 0) dX5_countClashes_0 rfl ?_
  refine am_istoreE_n (pc := 1) 2 (loc' := [.ref 15, .int v1, .int 0, .null]) dX5_countClashes_1 rfl (by decide) rfl rfl ?_
  refine am_iconst (pc := 2) (v := 0) dX5_countClashes_2 rfl ?_
  refine am_istoreE_n (pc := 3) 3 (loc' := [.ref 15, .int v1, .int 0, .int 0]) dX5_countClashes_3 rfl (by decide) rfl rfl ?_
  exact h
set_option maxRecDepth 100000 in
set_option maxHeartbeats 4000000 in
theorem sg5_countClashes_4 {D : Nat} {mem : am_Mem} {Q : Option Value → am_Mem → Prop} {v1 : Int32} {v2 : Int32} {v3 : Int32} (h : (((4 : Int32) * (mem 1 4)) ≤ v3 → Q (some (.int (v2 / 2))) mem) ∧ (¬ ((4 : Int32) * (mem 1 4)) ≤ v3 → am_Ci m6_hasBit D [.int v1, .int v3] mem (fun r_1 mem_1 => (r_1 = 0 → am_J m5_countClashes (D + 1) 39 [.ref 15, .int v1, .int v2, .int v3] [] mem_1 Q) ∧ (¬ r_1 = 0 → vp_in v3 32 ∧ (am_Ci mJ6_bitCount_0f7a4 D [.int ((mem_1 17 v3.toNatClampNeg) &&& v1)] mem_1 (fun r_2 mem_2 => am_J m5_countClashes (D + 1) 39 [.ref 15, .int v1, .int (v2 + r_2), .int v3] [] mem_2 Q)))))) : am_J m5_countClashes (D + 1) 4 [.ref 15, .int v1, .int v2, .int v3] [] mem Q := by
  refine am_iload_n (pc := 4) 3 dX5_countClashes_4 rfl rfl ?_
  refine am_iconst (pc := 5) (v := 4) dX5_countClashes_5 rfl ?_
  refine am_aload_n (pc := 6) 0 dX5_countClashes_6 rfl rfl ?_
  refine am_getR (pc := 7) (k := 0) cl5 sh15 (by decide) (by decide) f5_24 rfl dX5_countClashes_7 ?_
  refine am_getI (pc := 10) (k := 4) cl1 sh1 (by decide) (by decide) f5_38 rfl dX5_countClashes_10 ?_
  refine am_imul (pc := 13) dX5_countClashes_13 ?_
  refine am_icmp_ge (pc := 14) 45 dX5_countClashes_14 (by decide) (fun c => ?_) (fun c => ?_)
  · replace h := h.1 c
    refine am_iload_n (pc := 45) 2 dX5_countClashes_45 rfl rfl ?_
    refine am_iconst (pc := 46) (v := 2) dX5_countClashes_46 rfl ?_
    refine am_idiv (pc := 47) dX5_countClashes_47 (by decide) ?_
    exact am_ireturn rfl dX5_countClashes_48 h
  · replace h := h.2 c
    refine am_iload_n (pc := 17) 1 dX5_countClashes_17 rfl rfl ?_
    refine am_iload_n (pc := 18) 3 dX5_countClashes_18 rfl rfl ?_
    refine am_callN (pc := 19) m6_hasBit D 2 [.int v1, .int v3] (rest := []) ok6_hasBit (by omega) rfl rfl l5_66 st6_hasBit (Nat.le_of_ble_eq_true rfl) dX5_countClashes_19 ?_
    refine am_Ci.use h (fun r_1 mem_1 h => ?_)
    show am_J m5_countClashes (D + 1) 22 [.ref 15, .int v1, .int v2, .int v3] [.int r_1] mem_1 Q
    refine am_if_eq (pc := 22) 39 dX5_countClashes_22 (by decide) (fun c => ?_) (fun c => ?_)
    · replace h := h.1 c
      exact h
    · replace h := h.2 c
      refine am_iload_n (pc := 25) 2 dX5_countClashes_25 rfl rfl ?_
      refine am_aload_n (pc := 26) 0 dX5_countClashes_26 rfl rfl ?_
      refine am_getR (pc := 27) (k := 3) cl5 sh15 (by decide) (by decide) f5_15 rfl dX5_countClashes_27 ?_
      refine am_iload_n (pc := 30) 3 dX5_countClashes_30 rfl rfl ?_
      refine am_iald (pc := 31) sh17 (by decide) h.1 dX5_countClashes_31 ?_
      replace h := h.2
      refine am_iload_n (pc := 32) 1 dX5_countClashes_32 rfl rfl ?_
      refine am_iand (pc := 33) dX5_countClashes_33 ?_
      refine am_callS (pc := 34) mJ6_bitCount_0f7a4 D 1 [.int ((mem_1 17 v3.toNatClampNeg) &&& v1)] (rest := [.int v2]) okJ6_bitCount_0f7a4 (by omega) rfl rfl l5_116 stJ6_bitCount_0f7a4 (Nat.le_of_ble_eq_true rfl) dX5_countClashes_34 ?_
      refine am_Ci.use h (fun r_2 mem_2 h => ?_)
      show am_J m5_countClashes (D + 1) 37 [.ref 15, .int v1, .int v2, .int v3] [.int r_2, .int v2] mem_2 Q
      refine am_iadd (pc := 37) dX5_countClashes_37 ?_
      refine am_istoreE_n (pc := 38) 2 (loc' := [.ref 15, .int v1, .int (v2 + r_2), .int v3]) dX5_countClashes_38 rfl (by decide) rfl rfl ?_
      exact h
set_option maxRecDepth 100000 in
set_option maxHeartbeats 4000000 in
theorem sg5_countClashes_39 {D : Nat} {mem : am_Mem} {Q : Option Value → am_Mem → Prop} {v1 : Int32} {v2 : Int32} {v3 : Int32} (h : am_J m5_countClashes (D + 1) 4 [.ref 15, .int v1, .int v2, .int (v3 + 1)] [] mem Q) : am_J m5_countClashes (D + 1) 39 [.ref 15, .int v1, .int v2, .int v3] [] mem Q := by
  refine am_iincE (pc := 39) (v := 1) (loc' := [.ref 15, .int v1, .int v2, .int (v3 + 1)]) dX5_countClashes_39 rfl rfl (by decide) rfl rfl ?_
  refine am_goto (pc := 42) 4 dX5_countClashes_42 (by decide) ?_
  exact h
