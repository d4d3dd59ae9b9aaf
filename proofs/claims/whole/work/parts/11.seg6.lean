set_option maxRecDepth 100000 in
set_option maxHeartbeats 4000000 in
theorem sg6_map_0 {D : Nat} {mem : am_Mem} {Q : Option Value → am_Mem → Prop} {v1 : Int32} {v2 : Int32} (h : am_Ci m6_isIn D [.int v1, .int 10, .int 400] mem (fun r_1 mem_1 => (r_1 = 0 → Q (some (.int (-2))) mem_1) ∧ (¬ r_1 = 0 → am_Ci m6_isIn D [.int v2, .int 10, .int 400] mem_1 (fun r_2 mem_2 => (¬ r_2 = 0 → Q (some (.int 1)) (am_set (am_set (am_set mem_2 1 0 v1) 1 1 v2) 1 4 0)) ∧ (r_2 = 0 → Q (some (.int (-2))) mem_2))))) : am_J m6_map (D + 1) 0 [.ref 0, .int v1, .int v2] [] mem Q := by
  refine am_iload_n (pc := 0) 1 dX6_map_0 rfl rfl ?_
  refine am_bipush (pc := 1) (v := 10) dX6_map_1 rfl ?_
  refine am_sipush (pc := 3) (v := 400) dX6_map_3 rfl ?_
  refine am_callS (pc := 6) m6_isIn D 3 [.int v1, .int 10, .int 400] (rest := []) ok6_isIn (by omega) rfl rfl l6_55 st6_isIn (Nat.le_of_ble_eq_true rfl) dX6_map_6 ?_
  refine am_Ci.use h (fun r_1 mem_1 h => ?_)
  show am_J m6_map (D + 1) 9 [.ref 0, .int v1, .int v2] [.int r_1] mem_1 Q
  refine am_if_eq (pc := 9) 24 dX6_map_9 (by decide) (fun c => ?_) (fun c => ?_)
  · replace h := h.1 c
    refine am_bipush (pc := 24) (v := -2) dX6_map_24 rfl ?_
    exact am_ireturn rfl dX6_map_26 h
  · replace h := h.2 c
    refine am_iload_n (pc := 12) 2 dX6_map_12 rfl rfl ?_
    refine am_bipush (pc := 13) (v := 10) dX6_map_13 rfl ?_
    refine am_sipush (pc := 15) (v := 400) dX6_map_15 rfl ?_
    refine am_callS (pc := 18) m6_isIn D 3 [.int v2, .int 10, .int 400] (rest := []) ok6_isIn (by omega) rfl rfl l6_55 st6_isIn (Nat.le_of_ble_eq_true rfl) dX6_map_18 ?_
    refine am_Ci.use h (fun r_2 mem_2 h => ?_)
    show am_J m6_map (D + 1) 21 [.ref 0, .int v1, .int v2] [.int r_2] mem_2 Q
    refine am_if_ne (pc := 21) 27 dX6_map_21 (by decide) (fun c => ?_) (fun c => ?_)
    · replace h := h.1 c
      refine am_aload_n (pc := 27) 0 dX6_map_27 rfl rfl ?_
      refine am_getR (pc := 28) (k := 0) cl6 sh0 (by decide) (by decide) f6_10 rfl dX6_map_28 ?_
      refine am_iload_n (pc := 31) 1 dX6_map_31 rfl rfl ?_
      refine am_putI (pc := 32) (k := 0) cl1 sh1 (by decide) (by decide) f6_59 rfl rfl rfl dX6_map_32 ?_
      refine am_aload_n (pc := 35) 0 dX6_map_35 rfl rfl ?_
      refine am_getR (pc := 36) (k := 0) cl6 sh0 (by decide) (by decide) f6_10 rfl dX6_map_36 ?_
      refine am_iload_n (pc := 39) 2 dX6_map_39 rfl rfl ?_
      refine am_putI (pc := 40) (k := 1) cl1 sh1 (by decide) (by decide) f6_63 rfl rfl rfl dX6_map_40 ?_
      refine am_aload_n (pc := 43) 0 dX6_map_43 rfl rfl ?_
      refine am_getR (pc := 44) (k := 0) cl6 sh0 (by decide) (by decide) f6_10 rfl dX6_map_44 ?_
      refine am_iconst (pc := 47) (v := 0) dX6_map_47 rfl ?_
      refine am_putI (pc := 48) (k := 4) cl1 sh1 (by decide) (by decide) f6_66 rfl rfl rfl dX6_map_48 ?_
      refine am_iconst (pc := 51) (v := 1) dX6_map_51 rfl ?_
      exact am_ireturn rfl dX6_map_52 h
    · replace h := h.2 c
      refine am_bipush (pc := 24) (v := -2) dX6_map_24 rfl ?_
      exact am_ireturn rfl dX6_map_26 h
set_option maxRecDepth 100000 in
set_option maxHeartbeats 4000000 in
theorem sg6_site_0 {D : Nat} {mem : am_Mem} {Q : Option Value → am_Mem → Prop} {v1 : Int32} {v2 : Int32} {v3 : Int32} {v4 : Int32} {v5 : Int32} (h : am_Ci m1_holds D [.ref 1, .int v1, .int v2] mem (fun r_1 mem_1 => (r_1 = 0 → Q (some (.int (-2))) mem_1) ∧ (¬ r_1 = 0 → am_Ci m6_isIn D [.int v3, .int 1, .int 60] mem_1 (fun r_2 mem_2 => (r_2 = 0 → Q (some (.int (-2))) mem_2) ∧ (¬ r_2 = 0 → am_Ci m6_isIn D [.int v4, .int 1, .int 20] mem_2 (fun r_3 mem_3 => (r_3 = 0 → Q (some (.int (-2))) mem_3) ∧ (¬ r_3 = 0 → am_Ci m6_isIn D [.int v5, .int 1, .int 99] mem_3 (fun r_4 mem_4 => (¬ r_4 = 0 → ((mem_4 1 4) < 8 → am_Ci m1_add D [.ref 1, .int v1, .int v2, .int v3, .int v4, .int v5] mem_4 (fun r_5 mem_5 => vp_in r_5 8 ∧ (Q (some (.int r_5)) (am_set mem_5 21 r_5.toNatClampNeg (-9))))) ∧ (¬ (mem_4 1 4) < 8 → Q (some (.int (-4))) mem_4)) ∧ (r_4 = 0 → Q (some (.int (-2))) mem_4))))))))) : am_J m6_site (D + 1) 0 [.ref 0, .int v1, .int v2, .int v3, .int v4, .int v5, .null] [] mem Q := by
  refine am_aload_n (pc := 0) 0 dX6_site_0 rfl rfl ?_
  refine am_getR (pc := 1) (k := 0) cl6 sh0 (by decide) (by decide) f6_10 rfl dX6_site_1 ?_
  refine am_iload_n (pc := 4) 1 dX6_site_4 rfl rfl ?_
  refine am_iload_n (pc := 5) 2 dX6_site_5 rfl rfl ?_
  refine am_callV (pc := 6) m1_holds D 2 [.int v1, .int v2] (rest := []) ok1_holds (by omega) rfl rfl sh1 (by decide) rfl l6_69 in1_holds se1_holds (Nat.le_of_ble_eq_true rfl) dX6_site_6 ?_
  refine am_Ci.use h (fun r_1 mem_1 h => ?_)
  show am_J m6_site (D + 1) 9 [.ref 0, .int v1, .int v2, .int v3, .int v4, .int v5, .null] [.int r_1] mem_1 Q
  refine am_if_eq (pc := 9) 44 dX6_site_9 (by decide) (fun c => ?_) (fun c => ?_)
  · replace h := h.1 c
    refine am_bipush (pc := 44) (v := -2) dX6_site_44 rfl ?_
    exact am_ireturn rfl dX6_site_46 h
  · replace h := h.2 c
    refine am_iload_n (pc := 12) 3 dX6_site_12 rfl rfl ?_
    refine am_iconst (pc := 13) (v := 1) dX6_site_13 rfl ?_
    refine am_bipush (pc := 14) (v := 60) dX6_site_14 rfl ?_
    refine am_callS (pc := 16) m6_isIn D 3 [.int v3, .int 1, .int 60] (rest := []) ok6_isIn (by omega) rfl rfl l6_55 st6_isIn (Nat.le_of_ble_eq_true rfl) dX6_site_16 ?_
    refine am_Ci.use h (fun r_2 mem_2 h => ?_)
    show am_J m6_site (D + 1) 19 [.ref 0, .int v1, .int v2, .int v3, .int v4, .int v5, .null] [.int r_2] mem_2 Q
    refine am_if_eq (pc := 19) 44 dX6_site_19 (by decide) (fun c => ?_) (fun c => ?_)
    · replace h := h.1 c
      refine am_bipush (pc := 44) (v := -2) dX6_site_44 rfl ?_
      exact am_ireturn rfl dX6_site_46 h
    · replace h := h.2 c
      refine am_iload (pc := 22) dX6_site_22 rfl ?_
      refine am_iconst (pc := 24) (v := 1) dX6_site_24 rfl ?_
      refine am_bipush (pc := 25) (v := 20) dX6_site_25 rfl ?_
      refine am_callS (pc := 27) m6_isIn D 3 [.int v4, .int 1, .int 20] (rest := []) ok6_isIn (by omega) rfl rfl l6_55 st6_isIn (Nat.le_of_ble_eq_true rfl) dX6_site_27 ?_
      refine am_Ci.use h (fun r_3 mem_3 h => ?_)
      show am_J m6_site (D + 1) 30 [.ref 0, .int v1, .int v2, .int v3, .int v4, .int v5, .null] [.int r_3] mem_3 Q
      refine am_if_eq (pc := 30) 44 dX6_site_30 (by decide) (fun c => ?_) (fun c => ?_)
      · replace h := h.1 c
        refine am_bipush (pc := 44) (v := -2) dX6_site_44 rfl ?_
        exact am_ireturn rfl dX6_site_46 h
      · replace h := h.2 c
        refine am_iload (pc := 33) dX6_site_33 rfl ?_
        refine am_iconst (pc := 35) (v := 1) dX6_site_35 rfl ?_
        refine am_bipush (pc := 36) (v := 99) dX6_site_36 rfl ?_
        refine am_callS (pc := 38) m6_isIn D 3 [.int v5, .int 1, .int 99] (rest := []) ok6_isIn (by omega) rfl rfl l6_55 st6_isIn (Nat.le_of_ble_eq_true rfl) dX6_site_38 ?_
        refine am_Ci.use h (fun r_4 mem_4 h => ?_)
        show am_J m6_site (D + 1) 41 [.ref 0, .int v1, .int v2, .int v3, .int v4, .int v5, .null] [.int r_4] mem_4 Q
        refine am_if_ne (pc := 41) 47 dX6_site_41 (by decide) (fun c => ?_) (fun c => ?_)
        · replace h := h.1 c
          refine am_aload_n (pc := 47) 0 dX6_site_47 rfl rfl ?_
          refine am_getR (pc := 48) (k := 0) cl6 sh0 (by decide) (by decide) f6_10 rfl dX6_site_48 ?_
          refine am_getI (pc := 51) (k := 4) cl1 sh1 (by decide) (by decide) f6_66 rfl dX6_site_51 ?_
          refine am_bipush (pc := 54) (v := 8) dX6_site_54 rfl ?_
          refine am_icmp_lt (pc := 56) 62 dX6_site_56 (by decide) (fun c => ?_) (fun c => ?_)
          · replace h := h.1 c
            refine am_aload_n (pc := 62) 0 dX6_site_62 rfl rfl ?_
            refine am_getR (pc := 63) (k := 0) cl6 sh0 (by decide) (by decide) f6_10 rfl dX6_site_63 ?_
            refine am_iload_n (pc := 66) 1 dX6_site_66 rfl rfl ?_
            refine am_iload_n (pc := 67) 2 dX6_site_67 rfl rfl ?_
            refine am_iload_n (pc := 68) 3 dX6_site_68 rfl rfl ?_
            refine am_iload (pc := 69) dX6_site_69 rfl ?_
            refine am_iload (pc := 71) dX6_site_71 rfl ?_
            refine am_callV (pc := 73) m1_add D 5 [.int v1, .int v2, .int v3, .int v4, .int v5] (rest := []) ok1_add (by omega) rfl rfl sh1 (by decide) rfl l6_73 in1_add se1_add (Nat.le_of_ble_eq_true rfl) dX6_site_73 ?_
            refine am_Ci.use h (fun r_5 mem_5 h => ?_)
            show am_J m6_site (D + 1) 76 [.ref 0, .int v1, .int v2, .int v3, .int v4, .int v5, .null] [.int r_5] mem_5 Q
            refine am_istoreE (pc := 76) (loc' := [.ref 0, .int v1, .int v2, .int v3, .int v4, .int v5, .int r_5]) dX6_site_76 (by decide) rfl rfl ?_
            refine am_aload_n (pc := 78) 0 dX6_site_78 rfl rfl ?_
            refine am_getR (pc := 79) (k := 3) cl6 sh0 (by decide) (by decide) f6_37 rfl dX6_site_79 ?_
            refine am_getR (pc := 82) (k := 2) cl3 sh20 (by decide) (by decide) f6_77 rfl dX6_site_82 ?_
            refine am_iload (pc := 85) dX6_site_85 rfl ?_
            refine am_bipush (pc := 87) (v := -9) dX6_site_87 rfl ?_
            refine am_iast (pc := 89) sh21 (by decide) h.1 dX6_site_89 ?_
            replace h := h.2
            refine am_iload (pc := 90) dX6_site_90 rfl ?_
            exact am_ireturn rfl dX6_site_92 h
          · replace h := h.2 c
            refine am_bipush (pc := 59) (v := -4) dX6_site_59 rfl ?_
            exact am_ireturn rfl dX6_site_61 h
        · replace h := h.2 c
          refine am_bipush (pc := 44) (v := -2) dX6_site_44 rfl ?_
          exact am_ireturn rfl dX6_site_46 h
set_option maxRecDepth 100000 in
set_option maxHeartbeats 4000000 in
theorem sg6_move_0 {D : Nat} {mem : am_Mem} {Q : Option Value → am_Mem → Prop} {v1 : Int32} {v2 : Int32} {v3 : Int32} (h : am_Ci m1_has D [.ref 1, .int v1] mem (fun r_1 mem_1 => (¬ r_1 = 0 → am_Ci m1_holds D [.ref 1, .int v2, .int v3] mem_1 (fun r_2 mem_2 => (¬ r_2 = 0 → vp_in v1 8 ∧ (vp_in v1 8 ∧ (vp_in v1 8 ∧ (vp_in v1 8 ∧ (Q (some (.int (((mem_2 2 v1.toNatClampNeg) * (1000 : Int32)) + (mem_2 3 v1.toNatClampNeg)))) (am_set (am_set mem_2 2 v1.toNatClampNeg v2) 3 v1.toNatClampNeg v3)))))) ∧ (r_2 = 0 → Q (some (.int (-2))) mem_2))) ∧ (r_1 = 0 → Q (some (.int (-1))) mem_1))) : am_J m6_move (D + 1) 0 [.ref 0, .int v1, .int v2, .int v3, .null] [] mem Q := by
  refine am_aload_n (pc := 0) 0 dX6_move_0 rfl rfl ?_
  refine am_getR (pc := 1) (k := 0) cl6 sh0 (by decide) (by decide) f6_10 rfl dX6_move_1 ?_
  refine am_iload_n (pc := 4) 1 dX6_move_4 rfl rfl ?_
  refine am_callV (pc := 5) m1_has D 1 [.int v1] (rest := []) ok1_has (by omega) rfl rfl sh1 (by decide) rfl l6_81 in1_has se1_has (Nat.le_of_ble_eq_true rfl) dX6_move_5 ?_
  refine am_Ci.use h (fun r_1 mem_1 h => ?_)
  show am_J m6_move (D + 1) 8 [.ref 0, .int v1, .int v2, .int v3, .null] [.int r_1] mem_1 Q
  refine am_if_ne (pc := 8) 13 dX6_move_8 (by decide) (fun c => ?_) (fun c => ?_)
  · replace h := h.1 c
    refine am_aload_n (pc := 13) 0 dX6_move_13 rfl rfl ?_
    refine am_getR (pc := 14) (k := 0) cl6 sh0 (by decide) (by decide) f6_10 rfl dX6_move_14 ?_
    refine am_iload_n (pc := 17) 2 dX6_move_17 rfl rfl ?_
    refine am_iload_n (pc := 18) 3 dX6_move_18 rfl rfl ?_
    refine am_callV (pc := 19) m1_holds D 2 [.int v2, .int v3] (rest := []) ok1_holds (by omega) rfl rfl sh1 (by decide) rfl l6_69 in1_holds se1_holds (Nat.le_of_ble_eq_true rfl) dX6_move_19 ?_
    refine am_Ci.use h (fun r_2 mem_2 h => ?_)
    show am_J m6_move (D + 1) 22 [.ref 0, .int v1, .int v2, .int v3, .null] [.int r_2] mem_2 Q
    refine am_if_ne (pc := 22) 28 dX6_move_22 (by decide) (fun c => ?_) (fun c => ?_)
    · replace h := h.1 c
      refine am_aload_n (pc := 28) 0 dX6_move_28 rfl rfl ?_
      refine am_getR (pc := 29) (k := 0) cl6 sh0 (by decide) (by decide) f6_10 rfl dX6_move_29 ?_
      refine am_getR (pc := 32) (k := 5) cl1 sh1 (by decide) (by decide) f6_85 rfl dX6_move_32 ?_
      refine am_iload_n (pc := 35) 1 dX6_move_35 rfl rfl ?_
      refine am_iald (pc := 36) sh2 (by decide) h.1 dX6_move_36 ?_
      replace h := h.2
      refine am_sipush (pc := 37) (v := 1000) dX6_move_37 rfl ?_
      refine am_imul (pc := 40) dX6_move_40 ?_
      refine am_aload_n (pc := 41) 0 dX6_move_41 rfl rfl ?_
      refine am_getR (pc := 42) (k := 0) cl6 sh0 (by decide) (by decide) f6_10 rfl dX6_move_42 ?_
      refine am_getR (pc := 45) (k := 6) cl1 sh1 (by decide) (by decide) f6_88 rfl dX6_move_45 ?_
      refine am_iload_n (pc := 48) 1 dX6_move_48 rfl rfl ?_
      refine am_iald (pc := 49) sh3 (by decide) h.1 dX6_move_49 ?_
      replace h := h.2
      refine am_iadd (pc := 50) dX6_move_50 ?_
      refine am_istoreE (pc := 51) (loc' := [.ref 0, .int v1, .int v2, .int v3, .int (((mem_2 2 v1.toNatClampNeg) * (1000 : Int32)) + (mem_2 3 v1.toNatClampNeg))]) dX6_move_51 (by decide) rfl rfl ?_
      refine am_aload_n (pc := 53) 0 dX6_move_53 rfl rfl ?_
      refine am_getR (pc := 54) (k := 0) cl6 sh0 (by decide) (by decide) f6_10 rfl dX6_move_54 ?_
      refine am_getR (pc := 57) (k := 5) cl1 sh1 (by decide) (by decide) f6_85 rfl dX6_move_57 ?_
      refine am_iload_n (pc := 60) 1 dX6_move_60 rfl rfl ?_
      refine am_iload_n (pc := 61) 2 dX6_move_61 rfl rfl ?_
      refine am_iast (pc := 62) sh2 (by decide) h.1 dX6_move_62 ?_
      replace h := h.2
      refine am_aload_n (pc := 63) 0 dX6_move_63 rfl rfl ?_
      refine am_getR (pc := 64) (k := 0) cl6 sh0 (by decide) (by decide) f6_10 rfl dX6_move_64 ?_
      refine am_getR (pc := 67) (k := 6) cl1 sh1 (by decide) (by decide) f6_88 rfl dX6_move_67 ?_
      refine am_iload_n (pc := 70) 1 dX6_move_70 rfl rfl ?_
      refine am_iload_n (pc := 71) 3 dX6_move_71 rfl rfl ?_
      refine am_iast (pc := 72) sh3 (by decide) h.1 dX6_move_72 ?_
      replace h := h.2
      refine am_iload (pc := 73) dX6_move_73 rfl ?_
      exact am_ireturn rfl dX6_move_75 h
    · replace h := h.2 c
      refine am_bipush (pc := 25) (v := -2) dX6_move_25 rfl ?_
      exact am_ireturn rfl dX6_move_27 h
  · replace h := h.2 c
    refine am_iconst (pc := 11) (v := -1) dX6_move_11 rfl ?_
    exact am_ireturn rfl dX6_move_12 h
set_option maxRecDepth 100000 in
set_option maxHeartbeats 4000000 in
theorem sg6_allow_0 {D : Nat} {mem : am_Mem} {Q : Option Value → am_Mem → Prop} {v1 : Int32} {v2 : Int32} {v3 : Int32} (h : am_Ci m1_has D [.ref 1, .int v1] mem (fun r_1 mem_1 => (¬ r_1 = 0 → am_Ci m6_isCorner D [.int v2] mem_1 (fun r_2 mem_2 => (¬ r_2 = 0 → am_Ci m6_boxOf D [.int v1, .int v2] mem_2 (fun r_3 mem_3 => vp_in r_3 32 ∧ (am_Ci m6_toInt D [.int (mem_3 7 r_3.toNatClampNeg)] mem_3 (fun r_4 mem_4 => vp_in r_3 32 ∧ (Q (some (.int r_4)) (am_set mem_4 7 r_3.toNatClampNeg (vp_nar .boolean v3))))))) ∧ (r_2 = 0 → Q (some (.int (-2))) mem_2))) ∧ (r_1 = 0 → Q (some (.int (-1))) mem_1))) : am_J m6_allow (D + 1) 0 [.ref 0, .int v1, .int v2, .int v3, .null, .null] [] mem Q := by
  refine am_aload_n (pc := 0) 0 dX6_allow_0 rfl rfl ?_
  refine am_getR (pc := 1) (k := 0) cl6 sh0 (by decide) (by decide) f6_10 rfl dX6_allow_1 ?_
  refine am_iload_n (pc := 4) 1 dX6_allow_4 rfl rfl ?_
  refine am_callV (pc := 5) m1_has D 1 [.int v1] (rest := []) ok1_has (by omega) rfl rfl sh1 (by decide) rfl l6_81 in1_has se1_has (Nat.le_of_ble_eq_true rfl) dX6_allow_5 ?_
  refine am_Ci.use h (fun r_1 mem_1 h => ?_)
  show am_J m6_allow (D + 1) 8 [.ref 0, .int v1, .int v2, .int v3, .null, .null] [.int r_1] mem_1 Q
  refine am_if_ne (pc := 8) 13 dX6_allow_8 (by decide) (fun c => ?_) (fun c => ?_)
  · replace h := h.1 c
    refine am_iload_n (pc := 13) 2 dX6_allow_13 rfl rfl ?_
    refine am_callS (pc := 14) m6_isCorner D 1 [.int v2] (rest := []) ok6_isCorner (by omega) rfl rfl l6_91 st6_isCorner (Nat.le_of_ble_eq_true rfl) dX6_allow_14 ?_
    refine am_Ci.use h (fun r_2 mem_2 h => ?_)
    show am_J m6_allow (D + 1) 17 [.ref 0, .int v1, .int v2, .int v3, .null, .null] [.int r_2] mem_2 Q
    refine am_if_ne (pc := 17) 23 dX6_allow_17 (by decide) (fun c => ?_) (fun c => ?_)
    · replace h := h.1 c
      refine am_iload_n (pc := 23) 1 dX6_allow_23 rfl rfl ?_
      refine am_iload_n (pc := 24) 2 dX6_allow_24 rfl rfl ?_
      refine am_callS (pc := 25) m6_boxOf D 2 [.int v1, .int v2] (rest := []) ok6_boxOf (by omega) rfl rfl l6_94 st6_boxOf (Nat.le_of_ble_eq_true rfl) dX6_allow_25 ?_
      refine am_Ci.use h (fun r_3 mem_3 h => ?_)
      show am_J m6_allow (D + 1) 28 [.ref 0, .int v1, .int v2, .int v3, .null, .null] [.int r_3] mem_3 Q
      refine am_istoreE (pc := 28) (loc' := [.ref 0, .int v1, .int v2, .int v3, .int r_3, .null]) dX6_allow_28 (by decide) rfl rfl ?_
      refine am_aload_n (pc := 30) 0 dX6_allow_30 rfl rfl ?_
      refine am_getR (pc := 31) (k := 0) cl6 sh0 (by decide) (by decide) f6_10 rfl dX6_allow_31 ?_
      refine am_getR (pc := 34) (k := 10) cl1 sh1 (by decide) (by decide) f6_98 rfl dX6_allow_34 ?_
      refine am_iload (pc := 37) dX6_allow_37 rfl ?_
      refine am_zald (pc := 39) sh7 (by decide) h.1 dX6_allow_39 ?_
      replace h := h.2
      refine am_callS (pc := 40) m6_toInt D 1 [.int (mem_3 7 r_3.toNatClampNeg)] (rest := []) ok6_toInt (by omega) rfl rfl l6_102 st6_toInt (Nat.le_of_ble_eq_true rfl) dX6_allow_40 ?_
      refine am_Ci.use h (fun r_4 mem_4 h => ?_)
      show am_J m6_allow (D + 1) 43 [.ref 0, .int v1, .int v2, .int v3, .int r_3, .null] [.int r_4] mem_4 Q
      refine am_istoreE (pc := 43) (loc' := [.ref 0, .int v1, .int v2, .int v3, .int r_3, .int r_4]) dX6_allow_43 (by decide) rfl rfl ?_
      refine am_aload_n (pc := 45) 0 dX6_allow_45 rfl rfl ?_
      refine am_getR (pc := 46) (k := 0) cl6 sh0 (by decide) (by decide) f6_10 rfl dX6_allow_46 ?_
      refine am_getR (pc := 49) (k := 10) cl1 sh1 (by decide) (by decide) f6_98 rfl dX6_allow_49 ?_
      refine am_iload (pc := 52) dX6_allow_52 rfl ?_
      refine am_iload_n (pc := 54) 3 dX6_allow_54 rfl rfl ?_
      refine am_zast (pc := 55) sh7 (by decide) h.1 dX6_allow_55 ?_
      replace h := h.2
      refine am_iload (pc := 56) dX6_allow_56 rfl ?_
      exact am_ireturn rfl dX6_allow_58 h
    · replace h := h.2 c
      refine am_bipush (pc := 20) (v := -2) dX6_allow_20 rfl ?_
      exact am_ireturn rfl dX6_allow_22 h
  · replace h := h.2 c
    refine am_iconst (pc := 11) (v := -1) dX6_allow_11 rfl ?_
    exact am_ireturn rfl dX6_allow_12 h
set_option maxRecDepth 100000 in
set_option maxHeartbeats 4000000 in
theorem sg6_rule_0 {D : Nat} {mem : am_Mem} {Q : Option Value → am_Mem → Prop} {v1 : Int32} {v2 : Int32} (h : (¬ v1 = 0 → am_J m6_rule (D + 1) 32 [.ref 0, .int v1, .int v2, .null] [] mem Q) ∧ (v1 = 0 → am_Ci m6_isIn D [.int v2, .int 1, .int 40] mem (fun r_1 mem_1 => (r_1 = 0 → am_J m6_rule (D + 1) 32 [.ref 0, .int v1, .int v2, .null] [] mem_1 Q) ∧ (¬ r_1 = 0 → Q (some (.int (mem_1 1 2))) (am_set mem_1 1 2 v2))))) : am_J m6_rule (D + 1) 0 [.ref 0, .int v1, .int v2, .null] [] mem Q := by
  refine am_iload_n (pc := 0) 1 dX6_rule_0 rfl rfl ?_
  refine am_if_ne (pc := 1) 32 dX6_rule_1 (by decide) (fun c => ?_) (fun c => ?_)
  · replace h := h.1 c
    exact h
  · replace h := h.2 c
    refine am_iload_n (pc := 4) 2 dX6_rule_4 rfl rfl ?_
    refine am_iconst (pc := 5) (v := 1) dX6_rule_5 rfl ?_
    refine am_bipush (pc := 6) (v := 40) dX6_rule_6 rfl ?_
    refine am_callS (pc := 8) m6_isIn D 3 [.int v2, .int 1, .int 40] (rest := []) ok6_isIn (by omega) rfl rfl l6_55 st6_isIn (Nat.le_of_ble_eq_true rfl) dX6_rule_8 ?_
    refine am_Ci.use h (fun r_1 mem_1 h => ?_)
    show am_J m6_rule (D + 1) 11 [.ref 0, .int v1, .int v2, .null] [.int r_1] mem_1 Q
    refine am_if_eq (pc := 11) 32 dX6_rule_11 (by decide) (fun c => ?_) (fun c => ?_)
    · replace h := h.1 c
      exact h
    · replace h := h.2 c
      refine am_aload_n (pc := 14) 0 dX6_rule_14 rfl rfl ?_
      refine am_getR (pc := 15) (k := 0) cl6 sh0 (by decide) (by decide) f6_10 rfl dX6_rule_15 ?_
      refine am_getI (pc := 18) (k := 2) cl1 sh1 (by decide) (by decide) f6_106 rfl dX6_rule_18 ?_
      refine am_istoreE_n (pc := 21) 3 (loc' := [.ref 0, .int v1, .int v2, .int (mem_1 1 2)]) dX6_rule_21 rfl (by decide) rfl rfl ?_
      refine am_aload_n (pc := 22) 0 dX6_rule_22 rfl rfl ?_
      refine am_getR (pc := 23) (k := 0) cl6 sh0 (by decide) (by decide) f6_10 rfl dX6_rule_23 ?_
      refine am_iload_n (pc := 26) 2 dX6_rule_26 rfl rfl ?_
      refine am_putI (pc := 27) (k := 2) cl1 sh1 (by decide) (by decide) f6_106 rfl rfl rfl dX6_rule_27 ?_
      refine am_iload_n (pc := 30) 3 dX6_rule_30 rfl rfl ?_
      exact am_ireturn rfl dX6_rule_31 h
set_option maxRecDepth 100000 in
set_option maxHeartbeats 4000000 in
theorem sg6_rule_32 {D : Nat} {mem : am_Mem} {Q : Option Value → am_Mem → Prop} {v1 : Int32} {v2 : Int32} (h : (¬ v1 = 1 → Q (some (.int (-2))) mem) ∧ (v1 = 1 → am_Ci m6_isIn D [.int v2, .int 0, .int 20] mem (fun r_1 mem_1 => (r_1 = 0 → Q (some (.int (-2))) mem_1) ∧ (¬ r_1 = 0 → Q (some (.int (mem_1 1 3))) (am_set mem_1 1 3 v2))))) : am_J m6_rule (D + 1) 32 [.ref 0, .int v1, .int v2, .null] [] mem Q := by
  refine am_iload_n (pc := 32) 1 dX6_rule_32 rfl rfl ?_
  refine am_iconst (pc := 33) (v := 1) dX6_rule_33 rfl ?_
  refine am_icmp_ne (pc := 34) 65 dX6_rule_34 (by decide) (fun c => ?_) (fun c => ?_)
  · replace h := h.1 c
    refine am_bipush (pc := 65) (v := -2) dX6_rule_65 rfl ?_
    exact am_ireturn rfl dX6_rule_67 h
  · replace h := h.2 c
    refine am_iload_n (pc := 37) 2 dX6_rule_37 rfl rfl ?_
    refine am_iconst (pc := 38) (v := 0) dX6_rule_38 rfl ?_
    refine am_bipush (pc := 39) (v := 20) dX6_rule_39 rfl ?_
    refine am_callS (pc := 41) m6_isIn D 3 [.int v2, .int 0, .int 20] (rest := []) ok6_isIn (by omega) rfl rfl l6_55 st6_isIn (Nat.le_of_ble_eq_true rfl) dX6_rule_41 ?_
    refine am_Ci.use h (fun r_1 mem_1 h => ?_)
    show am_J m6_rule (D + 1) 44 [.ref 0, .int v1, .int v2, .null] [.int r_1] mem_1 Q
    refine am_if_eq (pc := 44) 65 dX6_rule_44 (by decide) (fun c => ?_) (fun c => ?_)
    · replace h := h.1 c
      refine am_bipush (pc := 65) (v := -2) dX6_rule_65 rfl ?_
      exact am_ireturn rfl dX6_rule_67 h
    · replace h := h.2 c
      refine am_aload_n (pc := 47) 0 dX6_rule_47 rfl rfl ?_
      refine am_getR (pc := 48) (k := 0) cl6 sh0 (by decide) (by decide) f6_10 rfl dX6_rule_48 ?_
      refine am_getI (pc := 51) (k := 3) cl1 sh1 (by decide) (by decide) f6_109 rfl dX6_rule_51 ?_
      refine am_istoreE_n (pc := 54) 3 (loc' := [.ref 0, .int v1, .int v2, .int (mem_1 1 3)]) dX6_rule_54 rfl (by decide) rfl rfl ?_
      refine am_aload_n (pc := 55) 0 dX6_rule_55 rfl rfl ?_
      refine am_getR (pc := 56) (k := 0) cl6 sh0 (by decide) (by decide) f6_10 rfl dX6_rule_56 ?_
      refine am_iload_n (pc := 59) 2 dX6_rule_59 rfl rfl ?_
      refine am_putI (pc := 60) (k := 3) cl1 sh1 (by decide) (by decide) f6_109 rfl rfl rfl dX6_rule_60 ?_
      refine am_iload_n (pc := 63) 3 dX6_rule_63 rfl rfl ?_
      exact am_ireturn rfl dX6_rule_64 h
set_option maxRecDepth 100000 in
set_option maxHeartbeats 4000000 in
theorem sg6_about_0 {D : Nat} {mem : am_Mem} {Q : Option Value → am_Mem → Prop} {v1 : Int32} {v2 : Int32} (h : am_Ci m1_has D [.ref 1, .int v1] mem (fun r_1 mem_1 => (¬ r_1 = 0 → (v2.toInt = 0 → vp_in v1 8 ∧ (Q (some (.int (mem_1 2 v1.toNatClampNeg))) mem_1)) ∧ (v2.toInt = 1 → vp_in v1 8 ∧ (Q (some (.int (mem_1 3 v1.toNatClampNeg))) mem_1)) ∧ (v2.toInt = 2 → vp_in v1 8 ∧ (Q (some (.int (mem_1 4 v1.toNatClampNeg))) mem_1)) ∧ (v2.toInt = 3 → vp_in v1 8 ∧ (Q (some (.int (mem_1 5 v1.toNatClampNeg))) mem_1)) ∧ (v2.toInt = 4 → vp_in v1 8 ∧ (Q (some (.int (mem_1 6 v1.toNatClampNeg))) mem_1)) ∧ (v2.toInt = 5 → vp_in v1 8 ∧ (am_Ci m6_sized D [.int (mem_1 4 v1.toNatClampNeg), .int (mem_1 1 2)] mem_1 (fun r_2 mem_2 => Q (some (.int r_2)) mem_2))) ∧ (v2.toInt = 6 → vp_in v1 8 ∧ (am_Ci m6_sized D [.int (mem_1 5 v1.toNatClampNeg), .int (mem_1 1 2)] mem_1 (fun r_3 mem_3 => Q (some (.int r_3)) mem_3))) ∧ ((v2.toInt < 0 ∨ 6 < v2.toInt) → Q (some (.int (-2))) mem_1)) ∧ (r_1 = 0 → Q (some (.int (-1))) mem_1))) : am_J m6_about (D + 1) 0 [.ref 0, .int v1, .int v2] [] mem Q := by
  refine am_aload_n (pc := 0) 0 dX6_about_0 rfl rfl ?_
  refine am_getR (pc := 1) (k := 0) cl6 sh0 (by decide) (by decide) f6_10 rfl dX6_about_1 ?_
  refine am_iload_n (pc := 4) 1 dX6_about_4 rfl rfl ?_
  refine am_callV (pc := 5) m1_has D 1 [.int v1] (rest := []) ok1_has (by omega) rfl rfl sh1 (by decide) rfl l6_81 in1_has se1_has (Nat.le_of_ble_eq_true rfl) dX6_about_5 ?_
  refine am_Ci.use h (fun r_1 mem_1 h => ?_)
  show am_J m6_about (D + 1) 8 [.ref 0, .int v1, .int v2] [.int r_1] mem_1 Q
  refine am_if_ne (pc := 8) 13 dX6_about_8 (by decide) (fun c => ?_) (fun c => ?_)
  · replace h := h.1 c
    refine am_iload_n (pc := 13) 2 dX6_about_13 rfl rfl ?_
    refine am_table (pc := 14) dX6_about_14 146 (by decide) [56, 66, 76, 86, 96, 106, 126] (by decide) (by decide) (fun j t ht hx => ?_) (fun hx => ?_)
    · match j, ht with
      | 0, ht =>
        cases ht
        replace h := h.1 hx
        refine am_aload_n (pc := 56) 0 dX6_about_56 rfl rfl ?_
        refine am_getR (pc := 57) (k := 0) cl6 sh0 (by decide) (by decide) f6_10 rfl dX6_about_57 ?_
        refine am_getR (pc := 60) (k := 5) cl1 sh1 (by decide) (by decide) f6_85 rfl dX6_about_60 ?_
        refine am_iload_n (pc := 63) 1 dX6_about_63 rfl rfl ?_
        refine am_iald (pc := 64) sh2 (by decide) h.1 dX6_about_64 ?_
        replace h := h.2
        exact am_ireturn rfl dX6_about_65 h
      | 1, ht =>
        cases ht
        replace h := h.2.1 hx
        refine am_aload_n (pc := 66) 0 dX6_about_66 rfl rfl ?_
        refine am_getR (pc := 67) (k := 0) cl6 sh0 (by decide) (by decide) f6_10 rfl dX6_about_67 ?_
        refine am_getR (pc := 70) (k := 6) cl1 sh1 (by decide) (by decide) f6_88 rfl dX6_about_70 ?_
        refine am_iload_n (pc := 73) 1 dX6_about_73 rfl rfl ?_
        refine am_iald (pc := 74) sh3 (by decide) h.1 dX6_about_74 ?_
        replace h := h.2
        exact am_ireturn rfl dX6_about_75 h
      | 2, ht =>
        cases ht
        replace h := h.2.2.1 hx
        refine am_aload_n (pc := 76) 0 dX6_about_76 rfl rfl ?_
        refine am_getR (pc := 77) (k := 0) cl6 sh0 (by decide) (by decide) f6_10 rfl dX6_about_77 ?_
        refine am_getR (pc := 80) (k := 7) cl1 sh1 (by decide) (by decide) f6_112 rfl dX6_about_80 ?_
        refine am_iload_n (pc := 83) 1 dX6_about_83 rfl rfl ?_
        refine am_iald (pc := 84) sh4 (by decide) h.1 dX6_about_84 ?_
        replace h := h.2
        exact am_ireturn rfl dX6_about_85 h
      | 3, ht =>
        cases ht
        replace h := h.2.2.2.1 hx
        refine am_aload_n (pc := 86) 0 dX6_about_86 rfl rfl ?_
        refine am_getR (pc := 87) (k := 0) cl6 sh0 (by decide) (by decide) f6_10 rfl dX6_about_87 ?_
        refine am_getR (pc := 90) (k := 8) cl1 sh1 (by decide) (by decide) f6_115 rfl dX6_about_90 ?_
        refine am_iload_n (pc := 93) 1 dX6_about_93 rfl rfl ?_
        refine am_iald (pc := 94) sh5 (by decide) h.1 dX6_about_94 ?_
        replace h := h.2
        exact am_ireturn rfl dX6_about_95 h
      | 4, ht =>
        cases ht
        replace h := h.2.2.2.2.1 hx
        refine am_aload_n (pc := 96) 0 dX6_about_96 rfl rfl ?_
        refine am_getR (pc := 97) (k := 0) cl6 sh0 (by decide) (by decide) f6_10 rfl dX6_about_97 ?_
        refine am_getR (pc := 100) (k := 9) cl1 sh1 (by decide) (by decide) f6_118 rfl dX6_about_100 ?_
        refine am_iload_n (pc := 103) 1 dX6_about_103 rfl rfl ?_
        refine am_iald (pc := 104) sh6 (by decide) h.1 dX6_about_104 ?_
        replace h := h.2
        exact am_ireturn rfl dX6_about_105 h
      | 5, ht =>
        cases ht
        replace h := h.2.2.2.2.2.1 hx
        refine am_aload_n (pc := 106) 0 dX6_about_106 rfl rfl ?_
        refine am_getR (pc := 107) (k := 0) cl6 sh0 (by decide) (by decide) f6_10 rfl dX6_about_107 ?_
        refine am_getR (pc := 110) (k := 7) cl1 sh1 (by decide) (by decide) f6_112 rfl dX6_about_110 ?_
        refine am_iload_n (pc := 113) 1 dX6_about_113 rfl rfl ?_
        refine am_iald (pc := 114) sh4 (by decide) h.1 dX6_about_114 ?_
        replace h := h.2
        refine am_aload_n (pc := 115) 0 dX6_about_115 rfl rfl ?_
        refine am_getR (pc := 116) (k := 0) cl6 sh0 (by decide) (by decide) f6_10 rfl dX6_about_116 ?_
        refine am_getI (pc := 119) (k := 2) cl1 sh1 (by decide) (by decide) f6_106 rfl dX6_about_119 ?_
        refine am_callS (pc := 122) m6_sized D 2 [.int (mem_1 4 v1.toNatClampNeg), .int (mem_1 1 2)] (rest := []) ok6_sized (by omega) rfl rfl l6_121 st6_sized (Nat.le_of_ble_eq_true rfl) dX6_about_122 ?_
        refine am_Ci.use h (fun r_2 mem_2 h => ?_)
        show am_J m6_about (D + 1) 125 [.ref 0, .int v1, .int v2] [.int r_2] mem_2 Q
        exact am_ireturn rfl dX6_about_125 h
      | 6, ht =>
        cases ht
        replace h := h.2.2.2.2.2.2.1 hx
        refine am_aload_n (pc := 126) 0 dX6_about_126 rfl rfl ?_
        refine am_getR (pc := 127) (k := 0) cl6 sh0 (by decide) (by decide) f6_10 rfl dX6_about_127 ?_
        refine am_getR (pc := 130) (k := 8) cl1 sh1 (by decide) (by decide) f6_115 rfl dX6_about_130 ?_
        refine am_iload_n (pc := 133) 1 dX6_about_133 rfl rfl ?_
        refine am_iald (pc := 134) sh5 (by decide) h.1 dX6_about_134 ?_
        replace h := h.2
        refine am_aload_n (pc := 135) 0 dX6_about_135 rfl rfl ?_
        refine am_getR (pc := 136) (k := 0) cl6 sh0 (by decide) (by decide) f6_10 rfl dX6_about_136 ?_
        refine am_getI (pc := 139) (k := 2) cl1 sh1 (by decide) (by decide) f6_106 rfl dX6_about_139 ?_
        refine am_callS (pc := 142) m6_sized D 2 [.int (mem_1 5 v1.toNatClampNeg), .int (mem_1 1 2)] (rest := []) ok6_sized (by omega) rfl rfl l6_121 st6_sized (Nat.le_of_ble_eq_true rfl) dX6_about_142 ?_
        refine am_Ci.use h (fun r_3 mem_3 h => ?_)
        show am_J m6_about (D + 1) 145 [.ref 0, .int v1, .int v2] [.int r_3] mem_3 Q
        exact am_ireturn rfl dX6_about_145 h
      | j + 7, ht => simp at ht
    · replace h := h.2.2.2.2.2.2.2 hx
      refine am_bipush (pc := 146) (v := -2) dX6_about_146 rfl ?_
      exact am_ireturn rfl dX6_about_148 h
  · replace h := h.2 c
    refine am_iconst (pc := 11) (v := -1) dX6_about_11 rfl ?_
    exact am_ireturn rfl dX6_about_12 h
set_option maxRecDepth 100000 in
set_option maxHeartbeats 4000000 in
theorem sg6_free_0 {D : Nat} {mem : am_Mem} {Q : Option Value → am_Mem → Prop} {v1 : Int32} {v2 : Int32} (h : am_Ci m1_has D [.ref 1, .int v1] mem (fun r_1 mem_1 => (¬ r_1 = 0 → am_Ci m6_isCorner D [.int v2] mem_1 (fun r_2 mem_2 => (¬ r_2 = 0 → am_Cv m0_measure D [.ref 8, .int (mem_2 1 2), .int 1] mem_2 (fun mem_3 => am_Ci m6_boxOf D [.int v1, .int v2] mem_3 (fun r_4 mem_4 => am_Ci m0_isFree D [.ref 8, .int r_4] mem_4 (fun r_5 mem_5 => am_Ci m6_toInt D [.int r_5] mem_5 (fun r_6 mem_6 => Q (some (.int r_6)) mem_6))))) ∧ (r_2 = 0 → Q (some (.int (-2))) mem_2))) ∧ (r_1 = 0 → Q (some (.int (-1))) mem_1))) : am_J m6_free (D + 1) 0 [.ref 0, .int v1, .int v2] [] mem Q := by
  refine am_aload_n (pc := 0) 0 dX6_free_0 rfl rfl ?_
  refine am_getR (pc := 1) (k := 0) cl6 sh0 (by decide) (by decide) f6_10 rfl dX6_free_1 ?_
  refine am_iload_n (pc := 4) 1 dX6_free_4 rfl rfl ?_
  refine am_callV (pc := 5) m1_has D 1 [.int v1] (rest := []) ok1_has (by omega) rfl rfl sh1 (by decide) rfl l6_81 in1_has se1_has (Nat.le_of_ble_eq_true rfl) dX6_free_5 ?_
  refine am_Ci.use h (fun r_1 mem_1 h => ?_)
  show am_J m6_free (D + 1) 8 [.ref 0, .int v1, .int v2] [.int r_1] mem_1 Q
  refine am_if_ne (pc := 8) 13 dX6_free_8 (by decide) (fun c => ?_) (fun c => ?_)
  · replace h := h.1 c
    refine am_iload_n (pc := 13) 2 dX6_free_13 rfl rfl ?_
    refine am_callS (pc := 14) m6_isCorner D 1 [.int v2] (rest := []) ok6_isCorner (by omega) rfl rfl l6_91 st6_isCorner (Nat.le_of_ble_eq_true rfl) dX6_free_14 ?_
    refine am_Ci.use h (fun r_2 mem_2 h => ?_)
    show am_J m6_free (D + 1) 17 [.ref 0, .int v1, .int v2] [.int r_2] mem_2 Q
    refine am_if_ne (pc := 17) 23 dX6_free_17 (by decide) (fun c => ?_) (fun c => ?_)
    · replace h := h.1 c
      refine am_aload_n (pc := 23) 0 dX6_free_23 rfl rfl ?_
      refine am_getR (pc := 24) (k := 1) cl6 sh0 (by decide) (by decide) f6_21 rfl dX6_free_24 ?_
      refine am_aload_n (pc := 27) 0 dX6_free_27 rfl rfl ?_
      refine am_getR (pc := 28) (k := 0) cl6 sh0 (by decide) (by decide) f6_10 rfl dX6_free_28 ?_
      refine am_getI (pc := 31) (k := 2) cl1 sh1 (by decide) (by decide) f6_106 rfl dX6_free_31 ?_
      refine am_iconst (pc := 34) (v := 1) dX6_free_34 rfl ?_
      refine am_callV (pc := 35) m0_measure D 2 [.int (mem_2 1 2), .int 1] (rest := []) ok0_measure (by omega) rfl rfl sh8 (by decide) rfl l6_124 in0_measure se0_measure (Nat.le_of_ble_eq_true rfl) dX6_free_35 ?_
      refine am_Cv.use h (fun mem_3 h => ?_)
      show am_J m6_free (D + 1) 38 [.ref 0, .int v1, .int v2] [] mem_3 Q
      refine am_aload_n (pc := 38) 0 dX6_free_38 rfl rfl ?_
      refine am_getR (pc := 39) (k := 1) cl6 sh0 (by decide) (by decide) f6_21 rfl dX6_free_39 ?_
      refine am_iload_n (pc := 42) 1 dX6_free_42 rfl rfl ?_
      refine am_iload_n (pc := 43) 2 dX6_free_43 rfl rfl ?_
      refine am_callS (pc := 44) m6_boxOf D 2 [.int v1, .int v2] (rest := [.ref 8]) ok6_boxOf (by omega) rfl rfl l6_94 st6_boxOf (Nat.le_of_ble_eq_true rfl) dX6_free_44 ?_
      refine am_Ci.use h (fun r_4 mem_4 h => ?_)
      show am_J m6_free (D + 1) 47 [.ref 0, .int v1, .int v2] [.int r_4, .ref 8] mem_4 Q
      refine am_callV (pc := 47) m0_isFree D 1 [.int r_4] (rest := []) ok0_isFree (by omega) rfl rfl sh8 (by decide) rfl l6_128 in0_isFree se0_isFree (Nat.le_of_ble_eq_true rfl) dX6_free_47 ?_
      refine am_Ci.use h (fun r_5 mem_5 h => ?_)
      show am_J m6_free (D + 1) 50 [.ref 0, .int v1, .int v2] [.int r_5] mem_5 Q
      refine am_callS (pc := 50) m6_toInt D 1 [.int r_5] (rest := []) ok6_toInt (by omega) rfl rfl l6_102 st6_toInt (Nat.le_of_ble_eq_true rfl) dX6_free_50 ?_
      refine am_Ci.use h (fun r_6 mem_6 h => ?_)
      show am_J m6_free (D + 1) 53 [.ref 0, .int v1, .int v2] [.int r_6] mem_6 Q
      exact am_ireturn rfl dX6_free_53 h
    · replace h := h.2 c
      refine am_bipush (pc := 20) (v := -2) dX6_free_20 rfl ?_
      exact am_ireturn rfl dX6_free_22 h
  · replace h := h.2 c
    refine am_iconst (pc := 11) (v := -1) dX6_free_11 rfl ?_
    exact am_ireturn rfl dX6_free_12 h
set_option maxRecDepth 100000 in
set_option maxHeartbeats 4000000 in
theorem sg6_clash_0 {D : Nat} {mem : am_Mem} {Q : Option Value → am_Mem → Prop} {v1 : Int32} {v2 : Int32} {v3 : Int32} {v4 : Int32} (h : am_Ci m1_has D [.ref 1, .int v1] mem (fun r_1 mem_1 => (r_1 = 0 → Q (some (.int (-1))) mem_1) ∧ (¬ r_1 = 0 → am_Ci m1_has D [.ref 1, .int v3] mem_1 (fun r_2 mem_2 => (¬ r_2 = 0 → am_Ci m6_isCorner D [.int v2] mem_2 (fun r_3 mem_3 => (r_3 = 0 → Q (some (.int (-2))) mem_3) ∧ (¬ r_3 = 0 → am_Ci m6_isCorner D [.int v4] mem_3 (fun r_4 mem_4 => (¬ r_4 = 0 → (¬ v1 = v3 → am_Cv m0_measure D [.ref 8, .int (mem_4 1 2), .int 1] mem_4 (fun mem_5 => am_Ci m6_boxOf D [.int v1, .int v2] mem_5 (fun r_6 mem_6 => am_Ci m6_boxOf D [.int v3, .int v4] mem_6 (fun r_7 mem_7 => am_Ci m0_doClash D [.ref 8, .int r_6, .int r_7] mem_7 (fun r_8 mem_8 => am_Ci m6_toInt D [.int r_8] mem_8 (fun r_9 mem_9 => Q (some (.int r_9)) mem_9)))))) ∧ (v1 = v3 → Q (some (.int (-3))) mem_4)) ∧ (r_4 = 0 → Q (some (.int (-2))) mem_4))))) ∧ (r_2 = 0 → Q (some (.int (-1))) mem_2))))) : am_J m6_clash (D + 1) 0 [.ref 0, .int v1, .int v2, .int v3, .int v4] [] mem Q := by
  refine am_aload_n (pc := 0) 0 dX6_clash_0 rfl rfl ?_
  refine am_getR (pc := 1) (k := 0) cl6 sh0 (by decide) (by decide) f6_10 rfl dX6_clash_1 ?_
  refine am_iload_n (pc := 4) 1 dX6_clash_4 rfl rfl ?_
  refine am_callV (pc := 5) m1_has D 1 [.int v1] (rest := []) ok1_has (by omega) rfl rfl sh1 (by decide) rfl l6_81 in1_has se1_has (Nat.le_of_ble_eq_true rfl) dX6_clash_5 ?_
  refine am_Ci.use h (fun r_1 mem_1 h => ?_)
  show am_J m6_clash (D + 1) 8 [.ref 0, .int v1, .int v2, .int v3, .int v4] [.int r_1] mem_1 Q
  refine am_if_eq (pc := 8) 22 dX6_clash_8 (by decide) (fun c => ?_) (fun c => ?_)
  · replace h := h.1 c
    refine am_iconst (pc := 22) (v := -1) dX6_clash_22 rfl ?_
    exact am_ireturn rfl dX6_clash_23 h
  · replace h := h.2 c
    refine am_aload_n (pc := 11) 0 dX6_clash_11 rfl rfl ?_
    refine am_getR (pc := 12) (k := 0) cl6 sh0 (by decide) (by decide) f6_10 rfl dX6_clash_12 ?_
    refine am_iload_n (pc := 15) 3 dX6_clash_15 rfl rfl ?_
    refine am_callV (pc := 16) m1_has D 1 [.int v3] (rest := []) ok1_has (by omega) rfl rfl sh1 (by decide) rfl l6_81 in1_has se1_has (Nat.le_of_ble_eq_true rfl) dX6_clash_16 ?_
    refine am_Ci.use h (fun r_2 mem_2 h => ?_)
    show am_J m6_clash (D + 1) 19 [.ref 0, .int v1, .int v2, .int v3, .int v4] [.int r_2] mem_2 Q
    refine am_if_ne (pc := 19) 24 dX6_clash_19 (by decide) (fun c => ?_) (fun c => ?_)
    · replace h := h.1 c
      refine am_iload_n (pc := 24) 2 dX6_clash_24 rfl rfl ?_
      refine am_callS (pc := 25) m6_isCorner D 1 [.int v2] (rest := []) ok6_isCorner (by omega) rfl rfl l6_91 st6_isCorner (Nat.le_of_ble_eq_true rfl) dX6_clash_25 ?_
      refine am_Ci.use h (fun r_3 mem_3 h => ?_)
      show am_J m6_clash (D + 1) 28 [.ref 0, .int v1, .int v2, .int v3, .int v4] [.int r_3] mem_3 Q
      refine am_if_eq (pc := 28) 39 dX6_clash_28 (by decide) (fun c => ?_) (fun c => ?_)
      · replace h := h.1 c
        refine am_bipush (pc := 39) (v := -2) dX6_clash_39 rfl ?_
        exact am_ireturn rfl dX6_clash_41 h
      · replace h := h.2 c
        refine am_iload (pc := 31) dX6_clash_31 rfl ?_
        refine am_callS (pc := 33) m6_isCorner D 1 [.int v4] (rest := []) ok6_isCorner (by omega) rfl rfl l6_91 st6_isCorner (Nat.le_of_ble_eq_true rfl) dX6_clash_33 ?_
        refine am_Ci.use h (fun r_4 mem_4 h => ?_)
        show am_J m6_clash (D + 1) 36 [.ref 0, .int v1, .int v2, .int v3, .int v4] [.int r_4] mem_4 Q
        refine am_if_ne (pc := 36) 42 dX6_clash_36 (by decide) (fun c => ?_) (fun c => ?_)
        · replace h := h.1 c
          refine am_iload_n (pc := 42) 1 dX6_clash_42 rfl rfl ?_
          refine am_iload_n (pc := 43) 3 dX6_clash_43 rfl rfl ?_
          refine am_icmp_ne (pc := 44) 50 dX6_clash_44 (by decide) (fun c => ?_) (fun c => ?_)
          · replace h := h.1 c
            refine am_aload_n (pc := 50) 0 dX6_clash_50 rfl rfl ?_
            refine am_getR (pc := 51) (k := 1) cl6 sh0 (by decide) (by decide) f6_21 rfl dX6_clash_51 ?_
            refine am_aload_n (pc := 54) 0 dX6_clash_54 rfl rfl ?_
            refine am_getR (pc := 55) (k := 0) cl6 sh0 (by decide) (by decide) f6_10 rfl dX6_clash_55 ?_
            refine am_getI (pc := 58) (k := 2) cl1 sh1 (by decide) (by decide) f6_106 rfl dX6_clash_58 ?_
            refine am_iconst (pc := 61) (v := 1) dX6_clash_61 rfl ?_
            refine am_callV (pc := 62) m0_measure D 2 [.int (mem_4 1 2), .int 1] (rest := []) ok0_measure (by omega) rfl rfl sh8 (by decide) rfl l6_124 in0_measure se0_measure (Nat.le_of_ble_eq_true rfl) dX6_clash_62 ?_
            refine am_Cv.use h (fun mem_5 h => ?_)
            show am_J m6_clash (D + 1) 65 [.ref 0, .int v1, .int v2, .int v3, .int v4] [] mem_5 Q
            refine am_aload_n (pc := 65) 0 dX6_clash_65 rfl rfl ?_
            refine am_getR (pc := 66) (k := 1) cl6 sh0 (by decide) (by decide) f6_21 rfl dX6_clash_66 ?_
            refine am_iload_n (pc := 69) 1 dX6_clash_69 rfl rfl ?_
            refine am_iload_n (pc := 70) 2 dX6_clash_70 rfl rfl ?_
            refine am_callS (pc := 71) m6_boxOf D 2 [.int v1, .int v2] (rest := [.ref 8]) ok6_boxOf (by omega) rfl rfl l6_94 st6_boxOf (Nat.le_of_ble_eq_true rfl) dX6_clash_71 ?_
            refine am_Ci.use h (fun r_6 mem_6 h => ?_)
            show am_J m6_clash (D + 1) 74 [.ref 0, .int v1, .int v2, .int v3, .int v4] [.int r_6, .ref 8] mem_6 Q
            refine am_iload_n (pc := 74) 3 dX6_clash_74 rfl rfl ?_
            refine am_iload (pc := 75) dX6_clash_75 rfl ?_
            refine am_callS (pc := 77) m6_boxOf D 2 [.int v3, .int v4] (rest := [.int r_6, .ref 8]) ok6_boxOf (by omega) rfl rfl l6_94 st6_boxOf (Nat.le_of_ble_eq_true rfl) dX6_clash_77 ?_
            refine am_Ci.use h (fun r_7 mem_7 h => ?_)
            show am_J m6_clash (D + 1) 80 [.ref 0, .int v1, .int v2, .int v3, .int v4] [.int r_7, .int r_6, .ref 8] mem_7 Q
            refine am_callV (pc := 80) m0_doClash D 2 [.int r_6, .int r_7] (rest := []) ok0_doClash (by omega) rfl rfl sh8 (by decide) rfl l6_131 in0_doClash se0_doClash (Nat.le_of_ble_eq_true rfl) dX6_clash_80 ?_
            refine am_Ci.use h (fun r_8 mem_8 h => ?_)
            show am_J m6_clash (D + 1) 83 [.ref 0, .int v1, .int v2, .int v3, .int v4] [.int r_8] mem_8 Q
            refine am_callS (pc := 83) m6_toInt D 1 [.int r_8] (rest := []) ok6_toInt (by omega) rfl rfl l6_102 st6_toInt (Nat.le_of_ble_eq_true rfl) dX6_clash_83 ?_
            refine am_Ci.use h (fun r_9 mem_9 h => ?_)
            show am_J m6_clash (D + 1) 86 [.ref 0, .int v1, .int v2, .int v3, .int v4] [.int r_9] mem_9 Q
            exact am_ireturn rfl dX6_clash_86 h
          · replace h := h.2 c
            refine am_bipush (pc := 47) (v := -3) dX6_clash_47 rfl ?_
            exact am_ireturn rfl dX6_clash_49 h
        · replace h := h.2 c
          refine am_bipush (pc := 39) (v := -2) dX6_clash_39 rfl ?_
          exact am_ireturn rfl dX6_clash_41 h
    · replace h := h.2 c
      refine am_iconst (pc := 22) (v := -1) dX6_clash_22 rfl ?_
      exact am_ireturn rfl dX6_clash_23 h
set_option maxRecDepth 100000 in
set_option maxHeartbeats 4000000 in
theorem sg6_best_0 {D : Nat} {mem : am_Mem} {Q : Option Value → am_Mem → Prop}  (h : am_Cv m5_findBest D [.ref 15] mem (fun mem_1 => Q (some (.int (mem_1 15 7))) mem_1)) : am_J m6_best (D + 1) 0 [.ref 0] [] mem Q := by
  refine am_aload_n (pc := 0) 0 dX6_best_0 rfl rfl ?_
  refine am_getR (pc := 1) (k := 2) cl6 sh0 (by decide) (by decide) f6_30 rfl dX6_best_1 ?_
  refine am_callV (pc := 4) m5_findBest D 0 [] (rest := []) ok5_findBest (by omega) rfl rfl sh15 (by decide) rfl l6_134 in5_findBest se5_findBest (Nat.le_of_ble_eq_true rfl) dX6_best_4 ?_
  refine am_Cv.use h (fun mem_1 h => ?_)
  show am_J m6_best (D + 1) 7 [.ref 0] [] mem_1 Q
  refine am_aload_n (pc := 7) 0 dX6_best_7 rfl rfl ?_
  refine am_getR (pc := 8) (k := 2) cl6 sh0 (by decide) (by decide) f6_30 rfl dX6_best_8 ?_
  refine am_getI (pc := 11) (k := 7) cl5 sh15 (by decide) (by decide) f6_137 rfl dX6_best_11 ?_
  exact am_ireturn rfl dX6_best_14 h
set_option maxRecDepth 100000 in
set_option maxHeartbeats 4000000 in
theorem sg6_at_0 {D : Nat} {mem : am_Mem} {Q : Option Value → am_Mem → Prop} {v1 : Int32} (h : am_Ci m1_has D [.ref 1, .int v1] mem (fun r_1 mem_1 => (¬ r_1 = 0 → am_Cv m5_findBest D [.ref 15] mem_1 (fun mem_2 => vp_in v1 8 ∧ (Q (some (.int (mem_2 19 v1.toNatClampNeg))) mem_2))) ∧ (r_1 = 0 → Q (some (.int (-1))) mem_1))) : am_J m6_at (D + 1) 0 [.ref 0, .int v1] [] mem Q := by
  refine am_aload_n (pc := 0) 0 dX6_at_0 rfl rfl ?_
  refine am_getR (pc := 1) (k := 0) cl6 sh0 (by decide) (by decide) f6_10 rfl dX6_at_1 ?_
  refine am_iload_n (pc := 4) 1 dX6_at_4 rfl rfl ?_
  refine am_callV (pc := 5) m1_has D 1 [.int v1] (rest := []) ok1_has (by omega) rfl rfl sh1 (by decide) rfl l6_81 in1_has se1_has (Nat.le_of_ble_eq_true rfl) dX6_at_5 ?_
  refine am_Ci.use h (fun r_1 mem_1 h => ?_)
  show am_J m6_at (D + 1) 8 [.ref 0, .int v1] [.int r_1] mem_1 Q
  refine am_if_ne (pc := 8) 13 dX6_at_8 (by decide) (fun c => ?_) (fun c => ?_)
  · replace h := h.1 c
    refine am_aload_n (pc := 13) 0 dX6_at_13 rfl rfl ?_
    refine am_getR (pc := 14) (k := 2) cl6 sh0 (by decide) (by decide) f6_30 rfl dX6_at_14 ?_
    refine am_callV (pc := 17) m5_findBest D 0 [] (rest := []) ok5_findBest (by omega) rfl rfl sh15 (by decide) rfl l6_134 in5_findBest se5_findBest (Nat.le_of_ble_eq_true rfl) dX6_at_17 ?_
    refine am_Cv.use h (fun mem_2 h => ?_)
    show am_J m6_at (D + 1) 20 [.ref 0, .int v1] [] mem_2 Q
    refine am_aload_n (pc := 20) 0 dX6_at_20 rfl rfl ?_
    refine am_getR (pc := 21) (k := 2) cl6 sh0 (by decide) (by decide) f6_30 rfl dX6_at_21 ?_
    refine am_getR (pc := 24) (k := 6) cl5 sh15 (by decide) (by decide) f6_140 rfl dX6_at_24 ?_
    refine am_iload_n (pc := 27) 1 dX6_at_27 rfl rfl ?_
    refine am_iald (pc := 28) sh19 (by decide) h.1 dX6_at_28 ?_
    replace h := h.2
    exact am_ireturn rfl dX6_at_29 h
  · replace h := h.2 c
    refine am_iconst (pc := 11) (v := -1) dX6_at_11 rfl ?_
    exact am_ireturn rfl dX6_at_12 h
set_option maxRecDepth 100000 in
set_option maxHeartbeats 4000000 in
theorem sg6_named_0 {D : Nat} {mem : am_Mem} {Q : Option Value → am_Mem → Prop}  (h : am_Cv m5_findBest D [.ref 15] mem (fun mem_1 => am_J m6_named (D + 1) 11 [.ref 0, .int 0, .int 0] [] mem_1 Q)) : am_J m6_named (D + 1) 0 [.ref 0, .null, .null] [] mem Q := by
  refine am_aload_n (pc := 0) 0 dX6_named_0 rfl rfl ?_
  refine am_getR (pc := 1) (k := 2) cl6 sh0 (by decide) (by decide) f6_30 rfl dX6_named_1 ?_
  refine am_callV (pc := 4) m5_findBest D 0 [] (rest := []) ok5_findBest (by omega) rfl rfl sh15 (by decide) rfl l6_134 in5_findBest se5_findBest (Nat.le_of_ble_eq_true rfl) dX6_named_4 ?_
  refine am_Cv.use h (fun mem_1 h => ?_)
  show am_J m6_named (D + 1) 7 [.ref 0, .null, .null] [] mem_1 Q
  refine am_iconst (pc := 7) (v := 0) dX6_named_7 rfl ?_
  refine am_istoreE_n (pc := 8) 1 (loc' := [.ref 0, .int 0, .null]) dX6_named_8 rfl (by decide) rfl rfl ?_
  refine am_iconst (pc := 9) (v := 0) dX6_named_9 rfl ?_
  refine am_istoreE_n (pc := 10) 2 (loc' := [.ref 0, .int 0, .int 0]) dX6_named_10 rfl (by decide) rfl rfl ?_
  exact h
set_option maxRecDepth 100000 in
set_option maxHeartbeats 4000000 in
theorem sg6_named_11 {D : Nat} {mem : am_Mem} {Q : Option Value → am_Mem → Prop} {v1 : Int32} {v2 : Int32} (h : ((mem 1 4) ≤ v2 → Q (some (.int v1)) mem) ∧ (¬ (mem 1 4) ≤ v2 → vp_in v2 8 ∧ (((mem 19 v2.toNatClampNeg) = (-9) → am_J m6_named (D + 1) 39 [.ref 0, .int v1, .int v2] [] mem Q) ∧ (¬ (mem 19 v2.toNatClampNeg) = (-9) → am_J m6_named (D + 1) 39 [.ref 0, .int (v1 + 1), .int v2] [] mem Q)))) : am_J m6_named (D + 1) 11 [.ref 0, .int v1, .int v2] [] mem Q := by
  refine am_iload_n (pc := 11) 2 dX6_named_11 rfl rfl ?_
  refine am_aload_n (pc := 12) 0 dX6_named_12 rfl rfl ?_
  refine am_getR (pc := 13) (k := 0) cl6 sh0 (by decide) (by decide) f6_10 rfl dX6_named_13 ?_
  refine am_getI (pc := 16) (k := 4) cl1 sh1 (by decide) (by decide) f6_66 rfl dX6_named_16 ?_
  refine am_icmp_ge (pc := 19) 45 dX6_named_19 (by decide) (fun c => ?_) (fun c => ?_)
  · replace h := h.1 c
    refine am_iload_n (pc := 45) 1 dX6_named_45 rfl rfl ?_
    exact am_ireturn rfl dX6_named_46 h
  · replace h := h.2 c
    refine am_aload_n (pc := 22) 0 dX6_named_22 rfl rfl ?_
    refine am_getR (pc := 23) (k := 2) cl6 sh0 (by decide) (by decide) f6_30 rfl dX6_named_23 ?_
    refine am_getR (pc := 26) (k := 6) cl5 sh15 (by decide) (by decide) f6_140 rfl dX6_named_26 ?_
    refine am_iload_n (pc := 29) 2 dX6_named_29 rfl rfl ?_
    refine am_iald (pc := 30) sh19 (by decide) h.1 dX6_named_30 ?_
    replace h := h.2
    refine am_bipush (pc := 31) (v := -9) dX6_named_31 rfl ?_
    refine am_icmp_eq (pc := 33) 39 dX6_named_33 (by decide) (fun c => ?_) (fun c => ?_)
    · replace h := h.1 c
      exact h
    · replace h := h.2 c
      refine am_iincE (pc := 36) (v := 1) (loc' := [.ref 0, .int (v1 + 1), .int v2]) dX6_named_36 rfl rfl (by decide) rfl rfl ?_
      exact h
set_option maxRecDepth 100000 in
set_option maxHeartbeats 4000000 in
theorem sg6_named_39 {D : Nat} {mem : am_Mem} {Q : Option Value → am_Mem → Prop} {v1 : Int32} {v2 : Int32} (h : am_J m6_named (D + 1) 11 [.ref 0, .int v1, .int (v2 + 1)] [] mem Q) : am_J m6_named (D + 1) 39 [.ref 0, .int v1, .int v2] [] mem Q := by
  refine am_iincE (pc := 39) (v := 1) (loc' := [.ref 0, .int v1, .int (v2 + 1)]) dX6_named_39 rfl rfl (by decide) rfl rfl ?_
  refine am_goto (pc := 42) 11 dX6_named_42 (by decide) ?_
  exact h
set_option maxRecDepth 100000 in
set_option maxHeartbeats 4000000 in
theorem sg6_full_0 {D : Nat} {mem : am_Mem} {Q : Option Value → am_Mem → Prop}  (h : am_Cv m5_study D [.ref 15, .int (mem 1 2)] mem (fun mem_1 => am_Ci m5_countFull D [.ref 15] mem_1 (fun r_2 mem_2 => Q (some (.int r_2)) mem_2))) : am_J m6_full (D + 1) 0 [.ref 0] [] mem Q := by
  refine am_aload_n (pc := 0) 0 dX6_full_0 rfl rfl ?_
  refine am_getR (pc := 1) (k := 2) cl6 sh0 (by decide) (by decide) f6_30 rfl dX6_full_1 ?_
  refine am_aload_n (pc := 4) 0 dX6_full_4 rfl rfl ?_
  refine am_getR (pc := 5) (k := 0) cl6 sh0 (by decide) (by decide) f6_10 rfl dX6_full_5 ?_
  refine am_getI (pc := 8) (k := 2) cl1 sh1 (by decide) (by decide) f6_106 rfl dX6_full_8 ?_
  refine am_callV (pc := 11) m5_study D 1 [.int (mem 1 2)] (rest := []) ok5_study (by omega) rfl rfl sh15 (by decide) rfl l6_143 in5_study se5_study (Nat.le_of_ble_eq_true rfl) dX6_full_11 ?_
  refine am_Cv.use h (fun mem_1 h => ?_)
  show am_J m6_full (D + 1) 14 [.ref 0] [] mem_1 Q
  refine am_aload_n (pc := 14) 0 dX6_full_14 rfl rfl ?_
  refine am_getR (pc := 15) (k := 2) cl6 sh0 (by decide) (by decide) f6_30 rfl dX6_full_15 ?_
  refine am_callV (pc := 18) m5_countFull D 0 [] (rest := []) ok5_countFull (by omega) rfl rfl sh15 (by decide) rfl l6_147 in5_countFull se5_countFull (Nat.le_of_ble_eq_true rfl) dX6_full_18 ?_
  refine am_Ci.use h (fun r_2 mem_2 h => ?_)
  show am_J m6_full (D + 1) 21 [.ref 0] [.int r_2] mem_2 Q
  exact am_ireturn rfl dX6_full_21 h
set_option maxRecDepth 100000 in
set_option maxHeartbeats 4000000 in
theorem sg6_with_0 {D : Nat} {mem : am_Mem} {Q : Option Value → am_Mem → Prop} {v1 : Int32} {v2 : Int32} (h : am_Ci m1_has D [.ref 1, .int v1] mem (fun r_1 mem_1 => (¬ r_1 = 0 → am_Ci m6_isCorner D [.int v2] mem_1 (fun r_2 mem_2 => (¬ r_2 = 0 → am_Cv m5_study D [.ref 15, .int (mem_2 1 2)] mem_2 (fun mem_3 => am_Ci m5_countFullWith D [.ref 15, .int v1, .int v2] mem_3 (fun r_4 mem_4 => Q (some (.int r_4)) mem_4))) ∧ (r_2 = 0 → Q (some (.int (-2))) mem_2))) ∧ (r_1 = 0 → Q (some (.int (-1))) mem_1))) : am_J m6_with (D + 1) 0 [.ref 0, .int v1, .int v2] [] mem Q := by
  refine am_aload_n (pc := 0) 0 dX6_with_0 rfl rfl ?_
  refine am_getR (pc := 1) (k := 0) cl6 sh0 (by decide) (by decide) f6_10 rfl dX6_with_1 ?_
  refine am_iload_n (pc := 4) 1 dX6_with_4 rfl rfl ?_
  refine am_callV (pc := 5) m1_has D 1 [.int v1] (rest := []) ok1_has (by omega) rfl rfl sh1 (by decide) rfl l6_81 in1_has se1_has (Nat.le_of_ble_eq_true rfl) dX6_with_5 ?_
  refine am_Ci.use h (fun r_1 mem_1 h => ?_)
  show am_J m6_with (D + 1) 8 [.ref 0, .int v1, .int v2] [.int r_1] mem_1 Q
  refine am_if_ne (pc := 8) 13 dX6_with_8 (by decide) (fun c => ?_) (fun c => ?_)
  · replace h := h.1 c
    refine am_iload_n (pc := 13) 2 dX6_with_13 rfl rfl ?_
    refine am_callS (pc := 14) m6_isCorner D 1 [.int v2] (rest := []) ok6_isCorner (by omega) rfl rfl l6_91 st6_isCorner (Nat.le_of_ble_eq_true rfl) dX6_with_14 ?_
    refine am_Ci.use h (fun r_2 mem_2 h => ?_)
    show am_J m6_with (D + 1) 17 [.ref 0, .int v1, .int v2] [.int r_2] mem_2 Q
    refine am_if_ne (pc := 17) 23 dX6_with_17 (by decide) (fun c => ?_) (fun c => ?_)
    · replace h := h.1 c
      refine am_aload_n (pc := 23) 0 dX6_with_23 rfl rfl ?_
      refine am_getR (pc := 24) (k := 2) cl6 sh0 (by decide) (by decide) f6_30 rfl dX6_with_24 ?_
      refine am_aload_n (pc := 27) 0 dX6_with_27 rfl rfl ?_
      refine am_getR (pc := 28) (k := 0) cl6 sh0 (by decide) (by decide) f6_10 rfl dX6_with_28 ?_
      refine am_getI (pc := 31) (k := 2) cl1 sh1 (by decide) (by decide) f6_106 rfl dX6_with_31 ?_
      refine am_callV (pc := 34) m5_study D 1 [.int (mem_2 1 2)] (rest := []) ok5_study (by omega) rfl rfl sh15 (by decide) rfl l6_143 in5_study se5_study (Nat.le_of_ble_eq_true rfl) dX6_with_34 ?_
      refine am_Cv.use h (fun mem_3 h => ?_)
      show am_J m6_with (D + 1) 37 [.ref 0, .int v1, .int v2] [] mem_3 Q
      refine am_aload_n (pc := 37) 0 dX6_with_37 rfl rfl ?_
      refine am_getR (pc := 38) (k := 2) cl6 sh0 (by decide) (by decide) f6_30 rfl dX6_with_38 ?_
      refine am_iload_n (pc := 41) 1 dX6_with_41 rfl rfl ?_
      refine am_iload_n (pc := 42) 2 dX6_with_42 rfl rfl ?_
      refine am_callV (pc := 43) m5_countFullWith D 2 [.int v1, .int v2] (rest := []) ok5_countFullWith (by omega) rfl rfl sh15 (by decide) rfl l6_151 in5_countFullWith se5_countFullWith (Nat.le_of_ble_eq_true rfl) dX6_with_43 ?_
      refine am_Ci.use h (fun r_4 mem_4 h => ?_)
      show am_J m6_with (D + 1) 46 [.ref 0, .int v1, .int v2] [.int r_4] mem_4 Q
      exact am_ireturn rfl dX6_with_46 h
    · replace h := h.2 c
      refine am_bipush (pc := 20) (v := -2) dX6_with_20 rfl ?_
      exact am_ireturn rfl dX6_with_22 h
  · replace h := h.2 c
    refine am_iconst (pc := 11) (v := -1) dX6_with_11 rfl ?_
    exact am_ireturn rfl dX6_with_12 h
set_option maxRecDepth 100000 in
set_option maxHeartbeats 4000000 in
theorem sg6_sure_0 {D : Nat} {mem : am_Mem} {Q : Option Value → am_Mem → Prop} {v1 : Int32} (h : am_Ci m1_has D [.ref 1, .int v1] mem (fun r_1 mem_1 => (¬ r_1 = 0 → am_Cv m5_study D [.ref 15, .int (mem_1 1 2)] mem_1 (fun mem_2 => am_J m6_sure (D + 1) 32 [.ref 0, .int v1, .int ((-9)), .int 0] [] mem_2 Q)) ∧ (r_1 = 0 → Q (some (.int (-1))) mem_1))) : am_J m6_sure (D + 1) 0 [.ref 0, .int v1, .null, .null] [] mem Q := by
  refine am_aload_n (pc := 0) 0 dX6_sure_0 rfl rfl ?_
  refine am_getR (pc := 1) (k := 0) cl6 sh0 (by decide) (by decide) f6_10 rfl dX6_sure_1 ?_
  refine am_iload_n (pc := 4) 1 dX6_sure_4 rfl rfl ?_
  refine am_callV (pc := 5) m1_has D 1 [.int v1] (rest := []) ok1_has (by omega) rfl rfl sh1 (by decide) rfl l6_81 in1_has se1_has (Nat.le_of_ble_eq_true rfl) dX6_sure_5 ?_
  refine am_Ci.use h (fun r_1 mem_1 h => ?_)
  show am_J m6_sure (D + 1) 8 [.ref 0, .int v1, .null, .null] [.int r_1] mem_1 Q
  refine am_if_ne (pc := 8) 13 dX6_sure_8 (by decide) (fun c => ?_) (fun c => ?_)
  · replace h := h.1 c
    refine am_aload_n (pc := 13) 0 dX6_sure_13 rfl rfl ?_
    refine am_getR (pc := 14) (k := 2) cl6 sh0 (by decide) (by decide) f6_30 rfl dX6_sure_14 ?_
    refine am_aload_n (pc := 17) 0 dX6_sure_17 rfl rfl ?_
    refine am_getR (pc := 18) (k := 0) cl6 sh0 (by decide) (by decide) f6_10 rfl dX6_sure_18 ?_
    refine am_getI (pc := 21) (k := 2) cl1 sh1 (by decide) (by decide) f6_106 rfl dX6_sure_21 ?_
    refine am_callV (pc := 24) m5_study D 1 [.int (mem_1 1 2)] (rest := []) ok5_study (by omega) rfl rfl sh15 (by decide) rfl l6_143 in5_study se5_study (Nat.le_of_ble_eq_true rfl) dX6_sure_24 ?_
    refine am_Cv.use h (fun mem_2 h => ?_)
    show am_J m6_sure (D + 1) 27 [.ref 0, .int v1, .null, .null] [] mem_2 Q
    refine am_bipush (pc := 27) (v := -9) dX6_sure_27 rfl ?_
    refine am_istoreE_n (pc := 29) 2 (loc' := [.ref 0, .int v1, .int ((-9)), .null]) dX6_sure_29 rfl (by decide) rfl rfl ?_
    refine am_iconst (pc := 30) (v := 0) dX6_sure_30 rfl ?_
    refine am_istoreE_n (pc := 31) 3 (loc' := [.ref 0, .int v1, .int ((-9)), .int 0]) dX6_sure_31 rfl (by decide) rfl rfl ?_
    exact h
  · replace h := h.2 c
    refine am_iconst (pc := 11) (v := -1) dX6_sure_11 rfl ?_
    exact am_ireturn rfl dX6_sure_12 h
set_option maxRecDepth 100000 in
set_option maxHeartbeats 4000000 in
theorem sg6_sure_32 {D : Nat} {mem : am_Mem} {Q : Option Value → am_Mem → Prop} {v1 : Int32} {v2 : Int32} {v3 : Int32} (h : (4 ≤ v3 → Q (some (.int v2)) mem) ∧ (¬ 4 ≤ v3 → am_Ci m5_isThereFullWith D [.ref 15, .int v1, .int v3] mem (fun r_1 mem_1 => (r_1 = 0 → am_J m6_sure (D + 1) 60 [.ref 0, .int v1, .int v2, .int v3] [] mem_1 Q) ∧ (¬ r_1 = 0 → (v2 = (-9) → am_J m6_sure (D + 1) 60 [.ref 0, .int v1, .int v3, .int v3] [] mem_1 Q) ∧ (¬ v2 = (-9) → Q (some (.int (-9))) mem_1))))) : am_J m6_sure (D + 1) 32 [.ref 0, .int v1, .int v2, .int v3] [] mem Q := by
  refine am_iload_n (pc := 32) 3 dX6_sure_32 rfl rfl ?_
  refine am_iconst (pc := 33) (v := 4) dX6_sure_33 rfl ?_
  refine am_icmp_ge (pc := 34) 66 dX6_sure_34 (by decide) (fun c => ?_) (fun c => ?_)
  · replace h := h.1 c
    refine am_iload_n (pc := 66) 2 dX6_sure_66 rfl rfl ?_
    exact am_ireturn rfl dX6_sure_67 h
  · replace h := h.2 c
    refine am_aload_n (pc := 37) 0 dX6_sure_37 rfl rfl ?_
    refine am_getR (pc := 38) (k := 2) cl6 sh0 (by decide) (by decide) f6_30 rfl dX6_sure_38 ?_
    refine am_iload_n (pc := 41) 1 dX6_sure_41 rfl rfl ?_
    refine am_iload_n (pc := 42) 3 dX6_sure_42 rfl rfl ?_
    refine am_callV (pc := 43) m5_isThereFullWith D 2 [.int v1, .int v3] (rest := []) ok5_isThereFullWith (by omega) rfl rfl sh15 (by decide) rfl l6_154 in5_isThereFullWith se5_isThereFullWith (Nat.le_of_ble_eq_true rfl) dX6_sure_43 ?_
    refine am_Ci.use h (fun r_1 mem_1 h => ?_)
    show am_J m6_sure (D + 1) 46 [.ref 0, .int v1, .int v2, .int v3] [.int r_1] mem_1 Q
    refine am_if_eq (pc := 46) 60 dX6_sure_46 (by decide) (fun c => ?_) (fun c => ?_)
    · replace h := h.1 c
      exact h
    · replace h := h.2 c
      refine am_iload_n (pc := 49) 2 dX6_sure_49 rfl rfl ?_
      refine am_bipush (pc := 50) (v := -9) dX6_sure_50 rfl ?_
      refine am_icmp_eq (pc := 52) 58 dX6_sure_52 (by decide) (fun c => ?_) (fun c => ?_)
      · replace h := h.1 c
        refine am_iload_n (pc := 58) 3 dX6_sure_58 rfl rfl ?_
        refine am_istoreE_n (pc := 59) 2 (loc' := [.ref 0, .int v1, .int v3, .int v3]) dX6_sure_59 rfl (by decide) rfl rfl ?_
        exact h
      · replace h := h.2 c
        refine am_bipush (pc := 55) (v := -9) dX6_sure_55 rfl ?_
        exact am_ireturn rfl dX6_sure_57 h
set_option maxRecDepth 100000 in
set_option maxHeartbeats 4000000 in
theorem sg6_sure_60 {D : Nat} {mem : am_Mem} {Q : Option Value → am_Mem → Prop} {v1 : Int32} {v2 : Int32} {v3 : Int32} (h : am_J m6_sure (D + 1) 32 [.ref 0, .int v1, .int v2, .int (v3 + 1)] [] mem Q) : am_J m6_sure (D + 1) 60 [.ref 0, .int v1, .int v2, .int v3] [] mem Q := by
  refine am_iincE (pc := 60) (v := 1) (loc' := [.ref 0, .int v1, .int v2, .int (v3 + 1)]) dX6_sure_60 rfl rfl (by decide) rfl rfl ?_
  refine am_goto (pc := 63) 32 dX6_sure_63 (by decide) ?_
  exact h
set_option maxRecDepth 100000 in
set_option maxHeartbeats 4000000 in
theorem sg6_greatest_0 {D : Nat} {mem : am_Mem} {Q : Option Value → am_Mem → Prop}  (h : am_J m6_greatest (D + 1) 3 [.ref 0, .int 40] [] mem Q) : am_J m6_greatest (D + 1) 0 [.ref 0, .null] [] mem Q := by
  refine am_bipush (pc := 0) (v := 40) dX6_greatest_0 rfl ?_
  refine am_istoreE_n (pc := 2) 1 (loc' := [.ref 0, .int 40]) dX6_greatest_2 rfl (by decide) rfl rfl ?_
  exact h
set_option maxRecDepth 100000 in
set_option maxHeartbeats 4000000 in
theorem sg6_greatest_3 {D : Nat} {mem : am_Mem} {Q : Option Value → am_Mem → Prop} {v1 : Int32} (h : (v1 < 1 → Q (some (.int (-9))) mem) ∧ (¬ v1 < 1 → am_Cv m5_study D [.ref 15, .int v1] mem (fun mem_1 => am_Ci m1_everySite D [.ref 1] mem_1 (fun r_2 mem_2 => am_Ci m5_isThereFull D [.ref 15, .int r_2] mem_2 (fun r_3 mem_3 => (r_3 = 0 → am_J m6_greatest (D + 1) 3 [.ref 0, .int (v1 + (-1))] [] mem_3 Q) ∧ (¬ r_3 = 0 → Q (some (.int v1)) mem_3)))))) : am_J m6_greatest (D + 1) 3 [.ref 0, .int v1] [] mem Q := by
  refine am_iload_n (pc := 3) 1 dX6_greatest_3 rfl rfl ?_
  refine am_iconst (pc := 4) (v := 1) dX6_greatest_4 rfl ?_
  refine am_icmp_lt (pc := 5) 41 dX6_greatest_5 (by decide) (fun c => ?_) (fun c => ?_)
  · replace h := h.1 c
    refine am_bipush (pc := 41) (v := -9) dX6_greatest_41 rfl ?_
    exact am_ireturn rfl dX6_greatest_43 h
  · replace h := h.2 c
    refine am_aload_n (pc := 8) 0 dX6_greatest_8 rfl rfl ?_
    refine am_getR (pc := 9) (k := 2) cl6 sh0 (by decide) (by decide) f6_30 rfl dX6_greatest_9 ?_
    refine am_iload_n (pc := 12) 1 dX6_greatest_12 rfl rfl ?_
    refine am_callV (pc := 13) m5_study D 1 [.int v1] (rest := []) ok5_study (by omega) rfl rfl sh15 (by decide) rfl l6_143 in5_study se5_study (Nat.le_of_ble_eq_true rfl) dX6_greatest_13 ?_
    refine am_Cv.use h (fun mem_1 h => ?_)
    show am_J m6_greatest (D + 1) 16 [.ref 0, .int v1] [] mem_1 Q
    refine am_aload_n (pc := 16) 0 dX6_greatest_16 rfl rfl ?_
    refine am_getR (pc := 17) (k := 2) cl6 sh0 (by decide) (by decide) f6_30 rfl dX6_greatest_17 ?_
    refine am_aload_n (pc := 20) 0 dX6_greatest_20 rfl rfl ?_
    refine am_getR (pc := 21) (k := 0) cl6 sh0 (by decide) (by decide) f6_10 rfl dX6_greatest_21 ?_
    refine am_callV (pc := 24) m1_everySite D 0 [] (rest := [.ref 15]) ok1_everySite (by omega) rfl rfl sh1 (by decide) rfl l6_157 in1_everySite se1_everySite (Nat.le_of_ble_eq_true rfl) dX6_greatest_24 ?_
    refine am_Ci.use h (fun r_2 mem_2 h => ?_)
    show am_J m6_greatest (D + 1) 27 [.ref 0, .int v1] [.int r_2, .ref 15] mem_2 Q
    refine am_callV (pc := 27) m5_isThereFull D 1 [.int r_2] (rest := []) ok5_isThereFull (by omega) rfl rfl sh15 (by decide) rfl l6_160 in5_isThereFull se5_isThereFull (Nat.le_of_ble_eq_true rfl) dX6_greatest_27 ?_
    refine am_Ci.use h (fun r_3 mem_3 h => ?_)
    show am_J m6_greatest (D + 1) 30 [.ref 0, .int v1] [.int r_3] mem_3 Q
    refine am_if_eq (pc := 30) 35 dX6_greatest_30 (by decide) (fun c => ?_) (fun c => ?_)
    · replace h := h.1 c
      refine am_iincE (pc := 35) (v := -1) (loc' := [.ref 0, .int (v1 + (-1))]) dX6_greatest_35 rfl rfl (by decide) rfl rfl ?_
      refine am_goto (pc := 38) 3 dX6_greatest_38 (by decide) ?_
      exact h
    · replace h := h.2 c
      refine am_iload_n (pc := 33) 1 dX6_greatest_33 rfl rfl ?_
      exact am_ireturn rfl dX6_greatest_34 h
set_option maxRecDepth 100000 in
set_option maxHeartbeats 4000000 in
theorem sg6_least_0 {D : Nat} {mem : am_Mem} {Q : Option Value → am_Mem → Prop}  (h : am_Cv m5_study D [.ref 15, .int (mem 1 2)] mem (fun mem_1 => am_Ci m1_everySite D [.ref 1] mem_1 (fun r_2 mem_2 => am_Ci m1_worthOf D [.ref 1, .int r_2] mem_2 (fun r_3 mem_3 => am_J m6_least (D + 1) 33 [.ref 0, .int r_2, .int r_3, .int 0, .null] [] mem_3 Q)))) : am_J m6_least (D + 1) 0 [.ref 0, .null, .null, .null, .null] [] mem Q := by
  refine am_aload_n (pc := 0) 0 dX6_least_0 rfl rfl ?_
  refine am_getR (pc := 1) (k := 2) cl6 sh0 (by decide) (by decide) f6_30 rfl dX6_least_1 ?_
  refine am_aload_n (pc := 4) 0 dX6_least_4 rfl rfl ?_
  refine am_getR (pc := 5) (k := 0) cl6 sh0 (by decide) (by decide) f6_10 rfl dX6_least_5 ?_
  refine am_getI (pc := 8) (k := 2) cl1 sh1 (by decide) (by decide) f6_106 rfl dX6_least_8 ?_
  refine am_callV (pc := 11) m5_study D 1 [.int (mem 1 2)] (rest := []) ok5_study (by omega) rfl rfl sh15 (by decide) rfl l6_143 in5_study se5_study (Nat.le_of_ble_eq_true rfl) dX6_least_11 ?_
  refine am_Cv.use h (fun mem_1 h => ?_)
  show am_J m6_least (D + 1) 14 [.ref 0, .null, .null, .null, .null] [] mem_1 Q
  refine am_aload_n (pc := 14) 0 dX6_least_14 rfl rfl ?_
  refine am_getR (pc := 15) (k := 0) cl6 sh0 (by decide) (by decide) f6_10 rfl dX6_least_15 ?_
  refine am_callV (pc := 18) m1_everySite D 0 [] (rest := []) ok1_everySite (by omega) rfl rfl sh1 (by decide) rfl l6_157 in1_everySite se1_everySite (Nat.le_of_ble_eq_true rfl) dX6_least_18 ?_
  refine am_Ci.use h (fun r_2 mem_2 h => ?_)
  show am_J m6_least (D + 1) 21 [.ref 0, .null, .null, .null, .null] [.int r_2] mem_2 Q
  refine am_istoreE_n (pc := 21) 1 (loc' := [.ref 0, .int r_2, .null, .null, .null]) dX6_least_21 rfl (by decide) rfl rfl ?_
  refine am_aload_n (pc := 22) 0 dX6_least_22 rfl rfl ?_
  refine am_getR (pc := 23) (k := 0) cl6 sh0 (by decide) (by decide) f6_10 rfl dX6_least_23 ?_
  refine am_iload_n (pc := 26) 1 dX6_least_26 rfl rfl ?_
  refine am_callV (pc := 27) m1_worthOf D 1 [.int r_2] (rest := []) ok1_worthOf (by omega) rfl rfl sh1 (by decide) rfl l6_163 in1_worthOf se1_worthOf (Nat.le_of_ble_eq_true rfl) dX6_least_27 ?_
  refine am_Ci.use h (fun r_3 mem_3 h => ?_)
  show am_J m6_least (D + 1) 30 [.ref 0, .int r_2, .null, .null, .null] [.int r_3] mem_3 Q
  refine am_istoreE_n (pc := 30) 2 (loc' := [.ref 0, .int r_2, .int r_3, .null, .null]) dX6_least_30 rfl (by decide) rfl rfl ?_
  refine am_iconst (pc := 31) (v := 0) dX6_least_31 rfl ?_
  refine am_istoreE_n (pc := 32) 3 (loc' := [.ref 0, .int r_2, .int r_3, .int 0, .null]) dX6_least_32 rfl (by decide) rfl rfl ?_
  exact h
set_option maxRecDepth 100000 in
set_option maxHeartbeats 4000000 in
theorem sg6_least_33 {D : Nat} {mem : am_Mem} {Q : Option Value → am_Mem → Prop} {v1 : Int32} {v2 : Int32} {v3 : Int32} (h : (v1 < v3 → Q (some (.int v2)) mem) ∧ (¬ v1 < v3 → am_Ci m1_worthOf D [.ref 1, .int v3] mem (fun r_1 mem_1 => (v2 ≤ r_1 → am_J m6_least (D + 1) 72 [.ref 0, .int v1, .int v2, .int v3, .null] [] mem_1 Q) ∧ (¬ v2 ≤ r_1 → am_Ci m5_isThereFull D [.ref 15, .int (v1 &&& (v3 ^^^ (-1 : Int32)))] mem_1 (fun r_2 mem_2 => (r_2 = 0 → am_J m6_least (D + 1) 72 [.ref 0, .int v1, .int v2, .int v3, .null] [] mem_2 Q) ∧ (¬ r_2 = 0 → am_J m6_least (D + 1) 72 [.ref 0, .int v1, .int r_1, .int v3, .null] [] mem_2 Q)))))) : am_J m6_least (D + 1) 33 [.ref 0, .int v1, .int v2, .int v3, .null] [] mem Q := by
  refine am_iload_n (pc := 33) 3 dX6_least_33 rfl rfl ?_
  refine am_iload_n (pc := 34) 1 dX6_least_34 rfl rfl ?_
  refine am_icmp_gt (pc := 35) 78 dX6_least_35 (by decide) (fun c => ?_) (fun c => ?_)
  · replace h := h.1 c
    refine am_iload_n (pc := 78) 2 dX6_least_78 rfl rfl ?_
    exact am_ireturn rfl dX6_least_79 h
  · replace h := h.2 c
    refine am_aload_n (pc := 38) 0 dX6_least_38 rfl rfl ?_
    refine am_getR (pc := 39) (k := 0) cl6 sh0 (by decide) (by decide) f6_10 rfl dX6_least_39 ?_
    refine am_iload_n (pc := 42) 3 dX6_least_42 rfl rfl ?_
    refine am_callV (pc := 43) m1_worthOf D 1 [.int v3] (rest := []) ok1_worthOf (by omega) rfl rfl sh1 (by decide) rfl l6_163 in1_worthOf se1_worthOf (Nat.le_of_ble_eq_true rfl) dX6_least_43 ?_
    refine am_Ci.use h (fun r_1 mem_1 h => ?_)
    show am_J m6_least (D + 1) 46 [.ref 0, .int v1, .int v2, .int v3, .null] [.int r_1] mem_1 Q
    refine am_istoreE (pc := 46) (loc' := [.ref 0, .int v1, .int v2, .int v3, .int r_1]) dX6_least_46 (by decide) rfl rfl ?_
    refine am_iload (pc := 48) dX6_least_48 rfl ?_
    refine am_iload_n (pc := 50) 2 dX6_least_50 rfl rfl ?_
    refine am_icmp_ge (pc := 51) 72 dX6_least_51 (by decide) (fun c => ?_) (fun c => ?_)
    · replace h := h.1 c
      exact am_drop [4] h
    · replace h := h.2 c
      refine am_aload_n (pc := 54) 0 dX6_least_54 rfl rfl ?_
      refine am_getR (pc := 55) (k := 2) cl6 sh0 (by decide) (by decide) f6_30 rfl dX6_least_55 ?_
      refine am_iload_n (pc := 58) 1 dX6_least_58 rfl rfl ?_
      refine am_iload_n (pc := 59) 3 dX6_least_59 rfl rfl ?_
      refine am_iconst (pc := 60) (v := -1) dX6_least_60 rfl ?_
      refine am_ixor (pc := 61) dX6_least_61 ?_
      refine am_iand (pc := 62) dX6_least_62 ?_
      refine am_callV (pc := 63) m5_isThereFull D 1 [.int (v1 &&& (v3 ^^^ (-1 : Int32)))] (rest := []) ok5_isThereFull (by omega) rfl rfl sh15 (by decide) rfl l6_160 in5_isThereFull se5_isThereFull (Nat.le_of_ble_eq_true rfl) dX6_least_63 ?_
      refine am_Ci.use h (fun r_2 mem_2 h => ?_)
      show am_J m6_least (D + 1) 66 [.ref 0, .int v1, .int v2, .int v3, .int r_1] [.int r_2] mem_2 Q
      refine am_if_eq (pc := 66) 72 dX6_least_66 (by decide) (fun c => ?_) (fun c => ?_)
      · replace h := h.1 c
        exact am_drop [4] h
      · replace h := h.2 c
        refine am_iload (pc := 69) dX6_least_69 rfl ?_
        refine am_istoreE_n (pc := 71) 2 (loc' := [.ref 0, .int v1, .int r_1, .int v3, .int r_1]) dX6_least_71 rfl (by decide) rfl rfl ?_
        exact am_drop [4] h
set_option maxRecDepth 100000 in
set_option maxHeartbeats 4000000 in
theorem sg6_least_72 {D : Nat} {mem : am_Mem} {Q : Option Value → am_Mem → Prop} {v1 : Int32} {v2 : Int32} {v3 : Int32} (h : am_J m6_least (D + 1) 33 [.ref 0, .int v1, .int v2, .int (v3 + 1), .null] [] mem Q) : am_J m6_least (D + 1) 72 [.ref 0, .int v1, .int v2, .int v3, .null] [] mem Q := by
  refine am_iincE (pc := 72) (v := 1) (loc' := [.ref 0, .int v1, .int v2, .int (v3 + 1), .null]) dX6_least_72 rfl rfl (by decide) rfl rfl ?_
  refine am_goto (pc := 75) 33 dX6_least_75 (by decide) ?_
  exact h
set_option maxRecDepth 100000 in
set_option maxHeartbeats 4000000 in
theorem sg6_put_0 {D : Nat} {mem : am_Mem} {Q : Option Value → am_Mem → Prop} {v1 : Int32} {v2 : Int32} (h : am_Ci m1_has D [.ref 1, .int v1] mem (fun r_1 mem_1 => (¬ r_1 = 0 → am_Ci m6_isCorner D [.int v2] mem_1 (fun r_2 mem_2 => (¬ r_2 = 0 → am_J m6_put (D + 1) 29 [.ref 0, .int v1, .int v2, .null] [] mem_2 Q) ∧ (r_2 = 0 → (v2 = (-9) → am_J m6_put (D + 1) 29 [.ref 0, .int v1, .int v2, .null] [] mem_2 Q) ∧ (¬ v2 = (-9) → Q (some (.int (-2))) mem_2)))) ∧ (r_1 = 0 → Q (some (.int (-1))) mem_1))) : am_J m6_put (D + 1) 0 [.ref 0, .int v1, .int v2, .null] [] mem Q := by
  refine am_aload_n (pc := 0) 0 dX6_put_0 rfl rfl ?_
  refine am_getR (pc := 1) (k := 0) cl6 sh0 (by decide) (by decide) f6_10 rfl dX6_put_1 ?_
  refine am_iload_n (pc := 4) 1 dX6_put_4 rfl rfl ?_
  refine am_callV (pc := 5) m1_has D 1 [.int v1] (rest := []) ok1_has (by omega) rfl rfl sh1 (by decide) rfl l6_81 in1_has se1_has (Nat.le_of_ble_eq_true rfl) dX6_put_5 ?_
  refine am_Ci.use h (fun r_1 mem_1 h => ?_)
  show am_J m6_put (D + 1) 8 [.ref 0, .int v1, .int v2, .null] [.int r_1] mem_1 Q
  refine am_if_ne (pc := 8) 13 dX6_put_8 (by decide) (fun c => ?_) (fun c => ?_)
  · replace h := h.1 c
    refine am_iload_n (pc := 13) 2 dX6_put_13 rfl rfl ?_
    refine am_callS (pc := 14) m6_isCorner D 1 [.int v2] (rest := []) ok6_isCorner (by omega) rfl rfl l6_91 st6_isCorner (Nat.le_of_ble_eq_true rfl) dX6_put_14 ?_
    refine am_Ci.use h (fun r_2 mem_2 h => ?_)
    show am_J m6_put (D + 1) 17 [.ref 0, .int v1, .int v2, .null] [.int r_2] mem_2 Q
    refine am_if_ne (pc := 17) 29 dX6_put_17 (by decide) (fun c => ?_) (fun c => ?_)
    · replace h := h.1 c
      exact h
    · replace h := h.2 c
      refine am_iload_n (pc := 20) 2 dX6_put_20 rfl rfl ?_
      refine am_bipush (pc := 21) (v := -9) dX6_put_21 rfl ?_
      refine am_icmp_eq (pc := 23) 29 dX6_put_23 (by decide) (fun c => ?_) (fun c => ?_)
      · replace h := h.1 c
        exact h
      · replace h := h.2 c
        refine am_bipush (pc := 26) (v := -2) dX6_put_26 rfl ?_
        exact am_ireturn rfl dX6_put_28 h
  · replace h := h.2 c
    refine am_iconst (pc := 11) (v := -1) dX6_put_11 rfl ?_
    exact am_ireturn rfl dX6_put_12 h
set_option maxRecDepth 100000 in
set_option maxHeartbeats 4000000 in
theorem sg6_put_29 {D : Nat} {mem : am_Mem} {Q : Option Value → am_Mem → Prop} {v1 : Int32} {v2 : Int32} (h : vp_in v1 8 ∧ (vp_in v1 8 ∧ (Q (some (.int (mem 21 v1.toNatClampNeg))) (am_set mem 21 v1.toNatClampNeg v2)))) : am_J m6_put (D + 1) 29 [.ref 0, .int v1, .int v2, .null] [] mem Q := by
  refine am_aload_n (pc := 29) 0 dX6_put_29 rfl rfl ?_
  refine am_getR (pc := 30) (k := 3) cl6 sh0 (by decide) (by decide) f6_37 rfl dX6_put_30 ?_
  refine am_getR (pc := 33) (k := 2) cl3 sh20 (by decide) (by decide) f6_77 rfl dX6_put_33 ?_
  refine am_iload_n (pc := 36) 1 dX6_put_36 rfl rfl ?_
  refine am_iald (pc := 37) sh21 (by decide) h.1 dX6_put_37 ?_
  replace h := h.2
  refine am_istoreE_n (pc := 38) 3 (loc' := [.ref 0, .int v1, .int v2, .int (mem 21 v1.toNatClampNeg)]) dX6_put_38 rfl (by decide) rfl rfl ?_
  refine am_aload_n (pc := 39) 0 dX6_put_39 rfl rfl ?_
  refine am_getR (pc := 40) (k := 3) cl6 sh0 (by decide) (by decide) f6_37 rfl dX6_put_40 ?_
  refine am_getR (pc := 43) (k := 2) cl3 sh20 (by decide) (by decide) f6_77 rfl dX6_put_43 ?_
  refine am_iload_n (pc := 46) 1 dX6_put_46 rfl rfl ?_
  refine am_iload_n (pc := 47) 2 dX6_put_47 rfl rfl ?_
  refine am_iast (pc := 48) sh21 (by decide) h.1 dX6_put_48 ?_
  replace h := h.2
  refine am_iload_n (pc := 49) 3 dX6_put_49 rfl rfl ?_
  exact am_ireturn rfl dX6_put_50 h
set_option maxRecDepth 100000 in
set_option maxHeartbeats 4000000 in
theorem sg6_hand_0 {D : Nat} {mem : am_Mem} {Q : Option Value → am_Mem → Prop} {v1 : Int32} (h : am_Ci m1_has D [.ref 1, .int v1] mem (fun r_1 mem_1 => (r_1 = 0 → Q (some (.int (-1))) mem_1) ∧ (¬ r_1 = 0 → vp_in v1 8 ∧ (Q (some (.int (mem_1 21 v1.toNatClampNeg))) mem_1)))) : am_J m6_hand (D + 1) 0 [.ref 0, .int v1] [] mem Q := by
  refine am_aload_n (pc := 0) 0 dX6_hand_0 rfl rfl ?_
  refine am_getR (pc := 1) (k := 0) cl6 sh0 (by decide) (by decide) f6_10 rfl dX6_hand_1 ?_
  refine am_iload_n (pc := 4) 1 dX6_hand_4 rfl rfl ?_
  refine am_callV (pc := 5) m1_has D 1 [.int v1] (rest := []) ok1_has (by omega) rfl rfl sh1 (by decide) rfl l6_81 in1_has se1_has (Nat.le_of_ble_eq_true rfl) dX6_hand_5 ?_
  refine am_Ci.use h (fun r_1 mem_1 h => ?_)
  show am_J m6_hand (D + 1) 8 [.ref 0, .int v1] [.int r_1] mem_1 Q
  refine am_if_eq (pc := 8) 23 dX6_hand_8 (by decide) (fun c => ?_) (fun c => ?_)
  · replace h := h.1 c
    refine am_iconst (pc := 23) (v := -1) dX6_hand_23 rfl ?_
    exact am_ireturn rfl dX6_hand_24 h
  · replace h := h.2 c
    refine am_aload_n (pc := 11) 0 dX6_hand_11 rfl rfl ?_
    refine am_getR (pc := 12) (k := 3) cl6 sh0 (by decide) (by decide) f6_37 rfl dX6_hand_12 ?_
    refine am_getR (pc := 15) (k := 2) cl3 sh20 (by decide) (by decide) f6_77 rfl dX6_hand_15 ?_
    refine am_iload_n (pc := 18) 1 dX6_hand_18 rfl rfl ?_
    refine am_iald (pc := 19) sh21 (by decide) h.1 dX6_hand_19 ?_
    replace h := h.2
    refine am_goto (pc := 20) 24 dX6_hand_20 (by decide) ?_
    exact am_ireturn rfl dX6_hand_24 h
set_option maxRecDepth 100000 in
set_option maxHeartbeats 4000000 in
theorem sg6_take_0 {D : Nat} {mem : am_Mem} {Q : Option Value → am_Mem → Prop}  (h : am_Cv m5_findBest D [.ref 15] mem (fun mem_1 => am_J m6_take (D + 1) 11 [.ref 0, .int 0, .int 0] [] mem_1 Q)) : am_J m6_take (D + 1) 0 [.ref 0, .null, .null] [] mem Q := by
  refine am_aload_n (pc := 0) 0 dX6_take_0 rfl rfl ?_
  refine am_getR (pc := 1) (k := 2) cl6 sh0 (by decide) (by decide) f6_30 rfl dX6_take_1 ?_
  refine am_callV (pc := 4) m5_findBest D 0 [] (rest := []) ok5_findBest (by omega) rfl rfl sh15 (by decide) rfl l6_134 in5_findBest se5_findBest (Nat.le_of_ble_eq_true rfl) dX6_take_4 ?_
  refine am_Cv.use h (fun mem_1 h => ?_)
  show am_J m6_take (D + 1) 7 [.ref 0, .null, .null] [] mem_1 Q
  refine am_iconst (pc := 7) (v := 0) dX6_take_7 rfl ?_
  refine am_istoreE_n (pc := 8) 1 (loc' := [.ref 0, .int 0, .null]) dX6_take_8 rfl (by decide) rfl rfl ?_
  refine am_iconst (pc := 9) (v := 0) dX6_take_9 rfl ?_
  refine am_istoreE_n (pc := 10) 2 (loc' := [.ref 0, .int 0, .int 0]) dX6_take_10 rfl (by decide) rfl rfl ?_
  exact h
set_option maxRecDepth 100000 in
set_option maxHeartbeats 4000000 in
theorem sg6_take_11 {D : Nat} {mem : am_Mem} {Q : Option Value → am_Mem → Prop} {v1 : Int32} {v2 : Int32} (h : ((mem 1 4) ≤ v2 → Q (some (.int v1)) mem) ∧ (¬ (mem 1 4) ≤ v2 → vp_in v2 8 ∧ (vp_in v2 8 ∧ (((mem 21 v2.toNatClampNeg) = (mem 19 v2.toNatClampNeg) → am_J m6_take (D + 1) 64 [.ref 0, .int v1, .int v2] [] mem Q) ∧ (¬ (mem 21 v2.toNatClampNeg) = (mem 19 v2.toNatClampNeg) → vp_in v2 8 ∧ (vp_in v2 8 ∧ (am_J m6_take (D + 1) 64 [.ref 0, .int (v1 + 1), .int v2] [] (am_set mem 21 v2.toNatClampNeg (mem 19 v2.toNatClampNeg)) Q))))))) : am_J m6_take (D + 1) 11 [.ref 0, .int v1, .int v2] [] mem Q := by
  refine am_iload_n (pc := 11) 2 dX6_take_11 rfl rfl ?_
  refine am_aload_n (pc := 12) 0 dX6_take_12 rfl rfl ?_
  refine am_getR (pc := 13) (k := 0) cl6 sh0 (by decide) (by decide) f6_10 rfl dX6_take_13 ?_
  refine am_getI (pc := 16) (k := 4) cl1 sh1 (by decide) (by decide) f6_66 rfl dX6_take_16 ?_
  refine am_icmp_ge (pc := 19) 70 dX6_take_19 (by decide) (fun c => ?_) (fun c => ?_)
  · replace h := h.1 c
    refine am_iload_n (pc := 70) 1 dX6_take_70 rfl rfl ?_
    exact am_ireturn rfl dX6_take_71 h
  · replace h := h.2 c
    refine am_aload_n (pc := 22) 0 dX6_take_22 rfl rfl ?_
    refine am_getR (pc := 23) (k := 3) cl6 sh0 (by decide) (by decide) f6_37 rfl dX6_take_23 ?_
    refine am_getR (pc := 26) (k := 2) cl3 sh20 (by decide) (by decide) f6_77 rfl dX6_take_26 ?_
    refine am_iload_n (pc := 29) 2 dX6_take_29 rfl rfl ?_
    refine am_iald (pc := 30) sh21 (by decide) h.1 dX6_take_30 ?_
    replace h := h.2
    refine am_aload_n (pc := 31) 0 dX6_take_31 rfl rfl ?_
    refine am_getR (pc := 32) (k := 2) cl6 sh0 (by decide) (by decide) f6_30 rfl dX6_take_32 ?_
    refine am_getR (pc := 35) (k := 6) cl5 sh15 (by decide) (by decide) f6_140 rfl dX6_take_35 ?_
    refine am_iload_n (pc := 38) 2 dX6_take_38 rfl rfl ?_
    refine am_iald (pc := 39) sh19 (by decide) h.1 dX6_take_39 ?_
    replace h := h.2
    refine am_icmp_eq (pc := 40) 64 dX6_take_40 (by decide) (fun c => ?_) (fun c => ?_)
    · replace h := h.1 c
      exact h
    · replace h := h.2 c
      refine am_aload_n (pc := 43) 0 dX6_take_43 rfl rfl ?_
      refine am_getR (pc := 44) (k := 3) cl6 sh0 (by decide) (by decide) f6_37 rfl dX6_take_44 ?_
      refine am_getR (pc := 47) (k := 2) cl3 sh20 (by decide) (by decide) f6_77 rfl dX6_take_47 ?_
      refine am_iload_n (pc := 50) 2 dX6_take_50 rfl rfl ?_
      refine am_aload_n (pc := 51) 0 dX6_take_51 rfl rfl ?_
      refine am_getR (pc := 52) (k := 2) cl6 sh0 (by decide) (by decide) f6_30 rfl dX6_take_52 ?_
      refine am_getR (pc := 55) (k := 6) cl5 sh15 (by decide) (by decide) f6_140 rfl dX6_take_55 ?_
      refine am_iload_n (pc := 58) 2 dX6_take_58 rfl rfl ?_
      refine am_iald (pc := 59) sh19 (by decide) h.1 dX6_take_59 ?_
      replace h := h.2
      refine am_iast (pc := 60) sh21 (by decide) h.1 dX6_take_60 ?_
      replace h := h.2
      refine am_iincE (pc := 61) (v := 1) (loc' := [.ref 0, .int (v1 + 1), .int v2]) dX6_take_61 rfl rfl (by decide) rfl rfl ?_
      exact h
set_option maxRecDepth 100000 in
set_option maxHeartbeats 4000000 in
theorem sg6_take_64 {D : Nat} {mem : am_Mem} {Q : Option Value → am_Mem → Prop} {v1 : Int32} {v2 : Int32} (h : am_J m6_take (D + 1) 11 [.ref 0, .int v1, .int (v2 + 1)] [] mem Q) : am_J m6_take (D + 1) 64 [.ref 0, .int v1, .int v2] [] mem Q := by
  refine am_iincE (pc := 64) (v := 1) (loc' := [.ref 0, .int v1, .int (v2 + 1)]) dX6_take_64 rfl rfl (by decide) rfl rfl ?_
  refine am_goto (pc := 67) 11 dX6_take_67 (by decide) ?_
  exact h
set_option maxRecDepth 100000 in
set_option maxHeartbeats 4000000 in
theorem sg6_faults_0 {D : Nat} {mem : am_Mem} {Q : Option Value → am_Mem → Prop}  (h : am_Cv m0_measure D [.ref 8, .int (mem 1 2), .int 1] mem (fun mem_1 => am_Ci m3_countFaults D [.ref 20] mem_1 (fun r_2 mem_2 => Q (some (.int r_2)) mem_2))) : am_J m6_faults (D + 1) 0 [.ref 0] [] mem Q := by
  refine am_aload_n (pc := 0) 0 dX6_faults_0 rfl rfl ?_
  refine am_getR (pc := 1) (k := 1) cl6 sh0 (by decide) (by decide) f6_21 rfl dX6_faults_1 ?_
  refine am_aload_n (pc := 4) 0 dX6_faults_4 rfl rfl ?_
  refine am_getR (pc := 5) (k := 0) cl6 sh0 (by decide) (by decide) f6_10 rfl dX6_faults_5 ?_
  refine am_getI (pc := 8) (k := 2) cl1 sh1 (by decide) (by decide) f6_106 rfl dX6_faults_8 ?_
  refine am_iconst (pc := 11) (v := 1) dX6_faults_11 rfl ?_
  refine am_callV (pc := 12) m0_measure D 2 [.int (mem 1 2), .int 1] (rest := []) ok0_measure (by omega) rfl rfl sh8 (by decide) rfl l6_124 in0_measure se0_measure (Nat.le_of_ble_eq_true rfl) dX6_faults_12 ?_
  refine am_Cv.use h (fun mem_1 h => ?_)
  show am_J m6_faults (D + 1) 15 [.ref 0] [] mem_1 Q
  refine am_aload_n (pc := 15) 0 dX6_faults_15 rfl rfl ?_
  refine am_getR (pc := 16) (k := 3) cl6 sh0 (by decide) (by decide) f6_37 rfl dX6_faults_16 ?_
  refine am_callV (pc := 19) m3_countFaults D 0 [] (rest := []) ok3_countFaults (by omega) rfl rfl sh20 (by decide) rfl l6_167 in3_countFaults se3_countFaults (Nat.le_of_ble_eq_true rfl) dX6_faults_19 ?_
  refine am_Ci.use h (fun r_2 mem_2 h => ?_)
  show am_J m6_faults (D + 1) 22 [.ref 0] [.int r_2] mem_2 Q
  exact am_ireturn rfl dX6_faults_22 h
set_option maxRecDepth 100000 in
set_option maxHeartbeats 4000000 in
theorem sg6_faultsOf_0 {D : Nat} {mem : am_Mem} {Q : Option Value → am_Mem → Prop} {v1 : Int32} (h : am_Ci m1_has D [.ref 1, .int v1] mem (fun r_1 mem_1 => (¬ r_1 = 0 → am_Cv m0_measure D [.ref 8, .int (mem_1 1 2), .int 1] mem_1 (fun mem_2 => am_Ci m3_ownFault D [.ref 20, .int v1] mem_2 (fun r_3 mem_3 => am_J m6_faultsOf (D + 1) 39 [.ref 0, .int v1, .int r_3, .int 0] [] mem_3 Q))) ∧ (r_1 = 0 → Q (some (.int (-1))) mem_1))) : am_J m6_faultsOf (D + 1) 0 [.ref 0, .int v1, .null, .null] [] mem Q := by
  refine am_aload_n (pc := 0) 0 dX6_faultsOf_0 rfl rfl ?_
  refine am_getR (pc := 1) (k := 0) cl6 sh0 (by decide) (by decide) f6_10 rfl dX6_faultsOf_1 ?_
  refine am_iload_n (pc := 4) 1 dX6_faultsOf_4 rfl rfl ?_
  refine am_callV (pc := 5) m1_has D 1 [.int v1] (rest := []) ok1_has (by omega) rfl rfl sh1 (by decide) rfl l6_81 in1_has se1_has (Nat.le_of_ble_eq_true rfl) dX6_faultsOf_5 ?_
  refine am_Ci.use h (fun r_1 mem_1 h => ?_)
  show am_J m6_faultsOf (D + 1) 8 [.ref 0, .int v1, .null, .null] [.int r_1] mem_1 Q
  refine am_if_ne (pc := 8) 13 dX6_faultsOf_8 (by decide) (fun c => ?_) (fun c => ?_)
  · replace h := h.1 c
    refine am_aload_n (pc := 13) 0 dX6_faultsOf_13 rfl rfl ?_
    refine am_getR (pc := 14) (k := 1) cl6 sh0 (by decide) (by decide) f6_21 rfl dX6_faultsOf_14 ?_
    refine am_aload_n (pc := 17) 0 dX6_faultsOf_17 rfl rfl ?_
    refine am_getR (pc := 18) (k := 0) cl6 sh0 (by decide) (by decide) f6_10 rfl dX6_faultsOf_18 ?_
    refine am_getI (pc := 21) (k := 2) cl1 sh1 (by decide) (by decide) f6_106 rfl dX6_faultsOf_21 ?_
    refine am_iconst (pc := 24) (v := 1) dX6_faultsOf_24 rfl ?_
    refine am_callV (pc := 25) m0_measure D 2 [.int (mem_1 1 2), .int 1] (rest := []) ok0_measure (by omega) rfl rfl sh8 (by decide) rfl l6_124 in0_measure se0_measure (Nat.le_of_ble_eq_true rfl) dX6_faultsOf_25 ?_
    refine am_Cv.use h (fun mem_2 h => ?_)
    show am_J m6_faultsOf (D + 1) 28 [.ref 0, .int v1, .null, .null] [] mem_2 Q
    refine am_aload_n (pc := 28) 0 dX6_faultsOf_28 rfl rfl ?_
    refine am_getR (pc := 29) (k := 3) cl6 sh0 (by decide) (by decide) f6_37 rfl dX6_faultsOf_29 ?_
    refine am_iload_n (pc := 32) 1 dX6_faultsOf_32 rfl rfl ?_
    refine am_callV (pc := 33) m3_ownFault D 1 [.int v1] (rest := []) ok3_ownFault (by omega) rfl rfl sh20 (by decide) rfl l6_170 in3_ownFault se3_ownFault (Nat.le_of_ble_eq_true rfl) dX6_faultsOf_33 ?_
    refine am_Ci.use h (fun r_3 mem_3 h => ?_)
    show am_J m6_faultsOf (D + 1) 36 [.ref 0, .int v1, .null, .null] [.int r_3] mem_3 Q
    refine am_istoreE_n (pc := 36) 2 (loc' := [.ref 0, .int v1, .int r_3, .null]) dX6_faultsOf_36 rfl (by decide) rfl rfl ?_
    refine am_iconst (pc := 37) (v := 0) dX6_faultsOf_37 rfl ?_
    refine am_istoreE_n (pc := 38) 3 (loc' := [.ref 0, .int v1, .int r_3, .int 0]) dX6_faultsOf_38 rfl (by decide) rfl rfl ?_
    exact h
  · replace h := h.2 c
    refine am_iconst (pc := 11) (v := -1) dX6_faultsOf_11 rfl ?_
    exact am_ireturn rfl dX6_faultsOf_12 h
set_option maxRecDepth 100000 in
set_option maxHeartbeats 4000000 in
theorem sg6_faultsOf_39 {D : Nat} {mem : am_Mem} {Q : Option Value → am_Mem → Prop} {v1 : Int32} {v2 : Int32} {v3 : Int32} (h : ((mem 1 4) ≤ v3 → Q (some (.int v2)) mem) ∧ (¬ (mem 1 4) ≤ v3 → (v3 = v1 → am_J m6_faultsOf (D + 1) 67 [.ref 0, .int v1, .int v2, .int v3] [] mem Q) ∧ (¬ v3 = v1 → am_Ci m3_sharedFault D [.ref 20, .int v1, .int v3] mem (fun r_1 mem_1 => am_J m6_faultsOf (D + 1) 67 [.ref 0, .int v1, .int (v2 + r_1), .int v3] [] mem_1 Q)))) : am_J m6_faultsOf (D + 1) 39 [.ref 0, .int v1, .int v2, .int v3] [] mem Q := by
  refine am_iload_n (pc := 39) 3 dX6_faultsOf_39 rfl rfl ?_
  refine am_aload_n (pc := 40) 0 dX6_faultsOf_40 rfl rfl ?_
  refine am_getR (pc := 41) (k := 0) cl6 sh0 (by decide) (by decide) f6_10 rfl dX6_faultsOf_41 ?_
  refine am_getI (pc := 44) (k := 4) cl1 sh1 (by decide) (by decide) f6_66 rfl dX6_faultsOf_44 ?_
  refine am_icmp_ge (pc := 47) 73 dX6_faultsOf_47 (by decide) (fun c => ?_) (fun c => ?_)
  · replace h := h.1 c
    refine am_iload_n (pc := 73) 2 dX6_faultsOf_73 rfl rfl ?_
    exact am_ireturn rfl dX6_faultsOf_74 h
  · replace h := h.2 c
    refine am_iload_n (pc := 50) 3 dX6_faultsOf_50 rfl rfl ?_
    refine am_iload_n (pc := 51) 1 dX6_faultsOf_51 rfl rfl ?_
    refine am_icmp_eq (pc := 52) 67 dX6_faultsOf_52 (by decide) (fun c => ?_) (fun c => ?_)
    · replace h := h.1 c
      exact h
    · replace h := h.2 c
      refine am_iload_n (pc := 55) 2 dX6_faultsOf_55 rfl rfl ?_
      refine am_aload_n (pc := 56) 0 dX6_faultsOf_56 rfl rfl ?_
      refine am_getR (pc := 57) (k := 3) cl6 sh0 (by decide) (by decide) f6_37 rfl dX6_faultsOf_57 ?_
      refine am_iload_n (pc := 60) 1 dX6_faultsOf_60 rfl rfl ?_
      refine am_iload_n (pc := 61) 3 dX6_faultsOf_61 rfl rfl ?_
      refine am_callV (pc := 62) m3_sharedFault D 2 [.int v1, .int v3] (rest := [.int v2]) ok3_sharedFault (by omega) rfl rfl sh20 (by decide) rfl l6_173 in3_sharedFault se3_sharedFault (Nat.le_of_ble_eq_true rfl) dX6_faultsOf_62 ?_
      refine am_Ci.use h (fun r_1 mem_1 h => ?_)
      show am_J m6_faultsOf (D + 1) 65 [.ref 0, .int v1, .int v2, .int v3] [.int r_1, .int v2] mem_1 Q
      refine am_iadd (pc := 65) dX6_faultsOf_65 ?_
      refine am_istoreE_n (pc := 66) 2 (loc' := [.ref 0, .int v1, .int (v2 + r_1), .int v3]) dX6_faultsOf_66 rfl (by decide) rfl rfl ?_
      exact h
set_option maxRecDepth 100000 in
set_option maxHeartbeats 4000000 in
theorem sg6_faultsOf_67 {D : Nat} {mem : am_Mem} {Q : Option Value → am_Mem → Prop} {v1 : Int32} {v2 : Int32} {v3 : Int32} (h : am_J m6_faultsOf (D + 1) 39 [.ref 0, .int v1, .int v2, .int (v3 + 1)] [] mem Q) : am_J m6_faultsOf (D + 1) 67 [.ref 0, .int v1, .int v2, .int v3] [] mem Q := by
  refine am_iincE (pc := 67) (v := 1) (loc' := [.ref 0, .int v1, .int v2, .int (v3 + 1)]) dX6_faultsOf_67 rfl rfl (by decide) rfl rfl ?_
  refine am_goto (pc := 70) 39 dX6_faultsOf_70 (by decide) ?_
  exact h
set_option maxRecDepth 100000 in
set_option maxHeartbeats 4000000 in
theorem sg6_stir_0 {D : Nat} {mem : am_Mem} {Q : Option Value → am_Mem → Prop}  (h : am_Cv m0_measure D [.ref 8, .int (mem 1 2), .int 1] mem (fun mem_1 => am_Ci m3_mendMost D [.ref 20] mem_1 (fun r_2 mem_2 => Q (some (.int r_2)) mem_2))) : am_J m6_stir (D + 1) 0 [.ref 0] [] mem Q := by
  refine am_aload_n (pc := 0) 0 dX6_stir_0 rfl rfl ?_
  refine am_getR (pc := 1) (k := 1) cl6 sh0 (by decide) (by decide) f6_21 rfl dX6_stir_1 ?_
  refine am_aload_n (pc := 4) 0 dX6_stir_4 rfl rfl ?_
  refine am_getR (pc := 5) (k := 0) cl6 sh0 (by decide) (by decide) f6_10 rfl dX6_stir_5 ?_
  refine am_getI (pc := 8) (k := 2) cl1 sh1 (by decide) (by decide) f6_106 rfl dX6_stir_8 ?_
  refine am_iconst (pc := 11) (v := 1) dX6_stir_11 rfl ?_
  refine am_callV (pc := 12) m0_measure D 2 [.int (mem 1 2), .int 1] (rest := []) ok0_measure (by omega) rfl rfl sh8 (by decide) rfl l6_124 in0_measure se0_measure (Nat.le_of_ble_eq_true rfl) dX6_stir_12 ?_
  refine am_Cv.use h (fun mem_1 h => ?_)
  show am_J m6_stir (D + 1) 15 [.ref 0] [] mem_1 Q
  refine am_aload_n (pc := 15) 0 dX6_stir_15 rfl rfl ?_
  refine am_getR (pc := 16) (k := 3) cl6 sh0 (by decide) (by decide) f6_37 rfl dX6_stir_16 ?_
  refine am_callV (pc := 19) m3_mendMost D 0 [] (rest := []) ok3_mendMost (by omega) rfl rfl sh20 (by decide) rfl l6_176 in3_mendMost se3_mendMost (Nat.le_of_ble_eq_true rfl) dX6_stir_19 ?_
  refine am_Ci.use h (fun r_2 mem_2 h => ?_)
  show am_J m6_stir (D + 1) 22 [.ref 0] [.int r_2] mem_2 Q
  exact am_ireturn rfl dX6_stir_22 h
set_option maxRecDepth 100000 in
set_option maxHeartbeats 4000000 in
theorem sg6_settle_0 {D : Nat} {mem : am_Mem} {Q : Option Value → am_Mem → Prop}  (h : am_Cv m0_measure D [.ref 8, .int (mem 1 2), .int 1] mem (fun mem_1 => am_J m6_settle (D + 1) 17 [.ref 0, .int 0] [] mem_1 Q)) : am_J m6_settle (D + 1) 0 [.ref 0, .null] [] mem Q := by
  refine am_aload_n (pc := 0) 0 dX6_settle_0 rfl rfl ?_
  refine am_getR (pc := 1) (k := 1) cl6 sh0 (by decide) (by decide) f6_21 rfl dX6_settle_1 ?_
  refine am_aload_n (pc := 4) 0 dX6_settle_4 rfl rfl ?_
  refine am_getR (pc := 5) (k := 0) cl6 sh0 (by decide) (by decide) f6_10 rfl dX6_settle_5 ?_
  refine am_getI (pc := 8) (k := 2) cl1 sh1 (by decide) (by decide) f6_106 rfl dX6_settle_8 ?_
  refine am_iconst (pc := 11) (v := 1) dX6_settle_11 rfl ?_
  refine am_callV (pc := 12) m0_measure D 2 [.int (mem 1 2), .int 1] (rest := []) ok0_measure (by omega) rfl rfl sh8 (by decide) rfl l6_124 in0_measure se0_measure (Nat.le_of_ble_eq_true rfl) dX6_settle_12 ?_
  refine am_Cv.use h (fun mem_1 h => ?_)
  show am_J m6_settle (D + 1) 15 [.ref 0, .null] [] mem_1 Q
  refine am_iconst (pc := 15) (v := 0) dX6_settle_15 rfl ?_
  refine am_istoreE_n (pc := 16) 1 (loc' := [.ref 0, .int 0]) dX6_settle_16 rfl (by decide) rfl rfl ?_
  exact h
set_option maxRecDepth 100000 in
set_option maxHeartbeats 4000000 in
theorem sg6_settle_17 {D : Nat} {mem : am_Mem} {Q : Option Value → am_Mem → Prop} {v1 : Int32} (h : (36 ≤ v1 → Q (some (.int 36)) mem) ∧ (¬ 36 ≤ v1 → am_Ci m3_mendMost D [.ref 20] mem (fun r_1 mem_1 => (¬ r_1 = (-9) → am_J m6_settle (D + 1) 17 [.ref 0, .int (v1 + 1)] [] mem_1 Q) ∧ (r_1 = (-9) → Q (some (.int v1)) mem_1)))) : am_J m6_settle (D + 1) 17 [.ref 0, .int v1] [] mem Q := by
  refine am_iload_n (pc := 17) 1 dX6_settle_17 rfl rfl ?_
  refine am_bipush (pc := 18) (v := 36) dX6_settle_18 rfl ?_
  refine am_icmp_ge (pc := 20) 43 dX6_settle_20 (by decide) (fun c => ?_) (fun c => ?_)
  · replace h := h.1 c
    refine am_bipush (pc := 43) (v := 36) dX6_settle_43 rfl ?_
    exact am_ireturn rfl dX6_settle_45 h
  · replace h := h.2 c
    refine am_aload_n (pc := 23) 0 dX6_settle_23 rfl rfl ?_
    refine am_getR (pc := 24) (k := 3) cl6 sh0 (by decide) (by decide) f6_37 rfl dX6_settle_24 ?_
    refine am_callV (pc := 27) m3_mendMost D 0 [] (rest := []) ok3_mendMost (by omega) rfl rfl sh20 (by decide) rfl l6_176 in3_mendMost se3_mendMost (Nat.le_of_ble_eq_true rfl) dX6_settle_27 ?_
    refine am_Ci.use h (fun r_1 mem_1 h => ?_)
    show am_J m6_settle (D + 1) 30 [.ref 0, .int v1] [.int r_1] mem_1 Q
    refine am_bipush (pc := 30) (v := -9) dX6_settle_30 rfl ?_
    refine am_icmp_ne (pc := 32) 37 dX6_settle_32 (by decide) (fun c => ?_) (fun c => ?_)
    · replace h := h.1 c
      refine am_iincE (pc := 37) (v := 1) (loc' := [.ref 0, .int (v1 + 1)]) dX6_settle_37 rfl rfl (by decide) rfl rfl ?_
      refine am_goto (pc := 40) 17 dX6_settle_40 (by decide) ?_
      exact h
    · replace h := h.2 c
      refine am_iload_n (pc := 35) 1 dX6_settle_35 rfl rfl ?_
      exact am_ireturn rfl dX6_settle_36 h
set_option maxRecDepth 100000 in
set_option maxHeartbeats 4000000 in
theorem sg6_stands_0 {D : Nat} {mem : am_Mem} {Q : Option Value → am_Mem → Prop}  (h : am_Cv m0_measure D [.ref 8, .int (mem 1 2), .int 1] mem (fun mem_1 => am_Ci m3_countFaults D [.ref 20] mem_1 (fun r_2 mem_2 => (¬ r_2 = 0 → am_J m6_stands (D + 1) 30 [.null] [.int 0] mem_2 Q) ∧ (r_2 = 0 → am_J m6_stands (D + 1) 30 [.null] [.int 1] mem_2 Q)))) : am_J m6_stands (D + 1) 0 [.ref 0] [] mem Q := by
  refine am_aload_n (pc := 0) 0 dX6_stands_0 rfl rfl ?_
  refine am_getR (pc := 1) (k := 1) cl6 sh0 (by decide) (by decide) f6_21 rfl dX6_stands_1 ?_
  refine am_aload_n (pc := 4) 0 dX6_stands_4 rfl rfl ?_
  refine am_getR (pc := 5) (k := 0) cl6 sh0 (by decide) (by decide) f6_10 rfl dX6_stands_5 ?_
  refine am_getI (pc := 8) (k := 2) cl1 sh1 (by decide) (by decide) f6_106 rfl dX6_stands_8 ?_
  refine am_iconst (pc := 11) (v := 1) dX6_stands_11 rfl ?_
  refine am_callV (pc := 12) m0_measure D 2 [.int (mem 1 2), .int 1] (rest := []) ok0_measure (by omega) rfl rfl sh8 (by decide) rfl l6_124 in0_measure se0_measure (Nat.le_of_ble_eq_true rfl) dX6_stands_12 ?_
  refine am_Cv.use h (fun mem_1 h => ?_)
  show am_J m6_stands (D + 1) 15 [.ref 0] [] mem_1 Q
  refine am_aload_n (pc := 15) 0 dX6_stands_15 rfl rfl ?_
  refine am_getR (pc := 16) (k := 3) cl6 sh0 (by decide) (by decide) f6_37 rfl dX6_stands_16 ?_
  refine am_callV (pc := 19) m3_countFaults D 0 [] (rest := []) ok3_countFaults (by omega) rfl rfl sh20 (by decide) rfl l6_167 in3_countFaults se3_countFaults (Nat.le_of_ble_eq_true rfl) dX6_stands_19 ?_
  refine am_Ci.use h (fun r_2 mem_2 h => ?_)
  show am_J m6_stands (D + 1) 22 [.ref 0] [.int r_2] mem_2 Q
  refine am_if_ne (pc := 22) 29 dX6_stands_22 (by decide) (fun c => ?_) (fun c => ?_)
  · replace h := h.1 c
    refine am_iconst (pc := 29) (v := 0) dX6_stands_29 rfl ?_
    exact am_drop [0] h
  · replace h := h.2 c
    refine am_iconst (pc := 25) (v := 1) dX6_stands_25 rfl ?_
    refine am_goto (pc := 26) 30 dX6_stands_26 (by decide) ?_
    exact am_drop [0] h
set_option maxRecDepth 100000 in
set_option maxHeartbeats 4000000 in
theorem sg6_stands_30 {D : Nat} {mem : am_Mem} {Q : Option Value → am_Mem → Prop} {s0 : Int32} (h : am_Ci m6_toInt D [.int s0] mem (fun r_1 mem_1 => Q (some (.int r_1)) mem_1)) : am_J m6_stands (D + 1) 30 [.null] [.int s0] mem Q := by
  refine am_callS (pc := 30) m6_toInt D 1 [.int s0] (rest := []) ok6_toInt (by omega) rfl rfl l6_102 st6_toInt (Nat.le_of_ble_eq_true rfl) dX6_stands_30 ?_
  refine am_Ci.use h (fun r_1 mem_1 h => ?_)
  show am_J m6_stands (D + 1) 33 [.null] [.int r_1] mem_1 Q
  exact am_ireturn rfl dX6_stands_33 h
set_option maxRecDepth 100000 in
set_option maxHeartbeats 4000000 in
theorem sg6_shown_0 {D : Nat} {mem : am_Mem} {Q : Option Value → am_Mem → Prop} {v1 : Int32} (h : am_Ci m6_isIn D [.int v1, .int 0, .int 5] mem (fun r_1 mem_1 => (¬ r_1 = 0 → am_Cv m4_grow D [.ref 22] mem_1 (fun mem_2 => am_J m6_shown (D + 1) 23 [.ref 0, .int v1, .int 0, .int 0] [] mem_2 Q)) ∧ (r_1 = 0 → Q (some (.int (-2))) mem_1))) : am_J m6_shown (D + 1) 0 [.ref 0, .int v1, .null, .null] [] mem Q := by
  refine am_iload_n (pc := 0) 1 dX6_shown_0 rfl rfl ?_
  refine am_iconst (pc := 1) (v := 0) dX6_shown_1 rfl ?_
  refine am_iconst (pc := 2) (v := 5) dX6_shown_2 rfl ?_
  refine am_callS (pc := 3) m6_isIn D 3 [.int v1, .int 0, .int 5] (rest := []) ok6_isIn (by omega) rfl rfl l6_55 st6_isIn (Nat.le_of_ble_eq_true rfl) dX6_shown_3 ?_
  refine am_Ci.use h (fun r_1 mem_1 h => ?_)
  show am_J m6_shown (D + 1) 6 [.ref 0, .int v1, .null, .null] [.int r_1] mem_1 Q
  refine am_if_ne (pc := 6) 12 dX6_shown_6 (by decide) (fun c => ?_) (fun c => ?_)
  · replace h := h.1 c
    refine am_aload_n (pc := 12) 0 dX6_shown_12 rfl rfl ?_
    refine am_getR (pc := 13) (k := 4) cl6 sh0 (by decide) (by decide) f6_44 rfl dX6_shown_13 ?_
    refine am_callV (pc := 16) m4_grow D 0 [] (rest := []) ok4_grow (by omega) rfl rfl sh22 (by decide) rfl l6_179 in4_grow se4_grow (Nat.le_of_ble_eq_true rfl) dX6_shown_16 ?_
    refine am_Cv.use h (fun mem_2 h => ?_)
    show am_J m6_shown (D + 1) 19 [.ref 0, .int v1, .null, .null] [] mem_2 Q
    refine am_iconst (pc := 19) (v := 0) dX6_shown_19 rfl ?_
    refine am_istoreE_n (pc := 20) 2 (loc' := [.ref 0, .int v1, .int 0, .null]) dX6_shown_20 rfl (by decide) rfl rfl ?_
    refine am_iconst (pc := 21) (v := 0) dX6_shown_21 rfl ?_
    refine am_istoreE_n (pc := 22) 3 (loc' := [.ref 0, .int v1, .int 0, .int 0]) dX6_shown_22 rfl (by decide) rfl rfl ?_
    exact h
  · replace h := h.2 c
    refine am_bipush (pc := 9) (v := -2) dX6_shown_9 rfl ?_
    exact am_ireturn rfl dX6_shown_11 h
set_option maxRecDepth 100000 in
set_option maxHeartbeats 4000000 in
theorem sg6_shown_23 {D : Nat} {mem : am_Mem} {Q : Option Value → am_Mem → Prop} {v1 : Int32} {v2 : Int32} {v3 : Int32} (h : ((mem 1 4) ≤ v3 → Q (some (.int v2)) mem) ∧ (¬ (mem 1 4) ≤ v3 → vp_in v3 8 ∧ (((mem 23 v3.toNatClampNeg) = (-9) → am_J m6_shown (D + 1) 64 [.ref 0, .int v1, .int v2, .int v3] [] mem Q) ∧ (¬ (mem 23 v3.toNatClampNeg) = (-9) → vp_in v3 8 ∧ ((v1 < (mem 23 v3.toNatClampNeg) → am_J m6_shown (D + 1) 64 [.ref 0, .int v1, .int v2, .int v3] [] mem Q) ∧ (¬ v1 < (mem 23 v3.toNatClampNeg) → am_J m6_shown (D + 1) 64 [.ref 0, .int v1, .int (v2 + 1), .int v3] [] mem Q)))))) : am_J m6_shown (D + 1) 23 [.ref 0, .int v1, .int v2, .int v3] [] mem Q := by
  refine am_iload_n (pc := 23) 3 dX6_shown_23 rfl rfl ?_
  refine am_aload_n (pc := 24) 0 dX6_shown_24 rfl rfl ?_
  refine am_getR (pc := 25) (k := 0) cl6 sh0 (by decide) (by decide) f6_10 rfl dX6_shown_25 ?_
  refine am_getI (pc := 28) (k := 4) cl1 sh1 (by decide) (by decide) f6_66 rfl dX6_shown_28 ?_
  refine am_icmp_ge (pc := 31) 70 dX6_shown_31 (by decide) (fun c => ?_) (fun c => ?_)
  · replace h := h.1 c
    refine am_iload_n (pc := 70) 2 dX6_shown_70 rfl rfl ?_
    exact am_ireturn rfl dX6_shown_71 h
  · replace h := h.2 c
    refine am_aload_n (pc := 34) 0 dX6_shown_34 rfl rfl ?_
    refine am_getR (pc := 35) (k := 4) cl6 sh0 (by decide) (by decide) f6_44 rfl dX6_shown_35 ?_
    refine am_getR (pc := 38) (k := 2) cl4 sh22 (by decide) (by decide) f6_182 rfl dX6_shown_38 ?_
    refine am_iload_n (pc := 41) 3 dX6_shown_41 rfl rfl ?_
    refine am_iald (pc := 42) sh23 (by decide) h.1 dX6_shown_42 ?_
    replace h := h.2
    refine am_bipush (pc := 43) (v := -9) dX6_shown_43 rfl ?_
    refine am_icmp_eq (pc := 45) 64 dX6_shown_45 (by decide) (fun c => ?_) (fun c => ?_)
    · replace h := h.1 c
      exact h
    · replace h := h.2 c
      refine am_aload_n (pc := 48) 0 dX6_shown_48 rfl rfl ?_
      refine am_getR (pc := 49) (k := 4) cl6 sh0 (by decide) (by decide) f6_44 rfl dX6_shown_49 ?_
      refine am_getR (pc := 52) (k := 2) cl4 sh22 (by decide) (by decide) f6_182 rfl dX6_shown_52 ?_
      refine am_iload_n (pc := 55) 3 dX6_shown_55 rfl rfl ?_
      refine am_iald (pc := 56) sh23 (by decide) h.1 dX6_shown_56 ?_
      replace h := h.2
      refine am_iload_n (pc := 57) 1 dX6_shown_57 rfl rfl ?_
      refine am_icmp_gt (pc := 58) 64 dX6_shown_58 (by decide) (fun c => ?_) (fun c => ?_)
      · replace h := h.1 c
        exact h
      · replace h := h.2 c
        refine am_iincE (pc := 61) (v := 1) (loc' := [.ref 0, .int v1, .int (v2 + 1), .int v3]) dX6_shown_61 rfl rfl (by decide) rfl rfl ?_
        exact h
set_option maxRecDepth 100000 in
set_option maxHeartbeats 4000000 in
theorem sg6_shown_64 {D : Nat} {mem : am_Mem} {Q : Option Value → am_Mem → Prop} {v1 : Int32} {v2 : Int32} {v3 : Int32} (h : am_J m6_shown (D + 1) 23 [.ref 0, .int v1, .int v2, .int (v3 + 1)] [] mem Q) : am_J m6_shown (D + 1) 64 [.ref 0, .int v1, .int v2, .int v3] [] mem Q := by
  refine am_iincE (pc := 64) (v := 1) (loc' := [.ref 0, .int v1, .int v2, .int (v3 + 1)]) dX6_shown_64 rfl rfl (by decide) rfl rfl ?_
  refine am_goto (pc := 67) 23 dX6_shown_67 (by decide) ?_
  exact h
set_option maxRecDepth 100000 in
set_option maxHeartbeats 4000000 in
theorem sg6_comes_0 {D : Nat} {mem : am_Mem} {Q : Option Value → am_Mem → Prop} {v1 : Int32} (h : am_Ci m1_has D [.ref 1, .int v1] mem (fun r_1 mem_1 => (¬ r_1 = 0 → am_Cv m4_grow D [.ref 22] mem_1 (fun mem_2 => vp_in v1 8 ∧ (Q (some (.int (mem_2 23 v1.toNatClampNeg))) mem_2))) ∧ (r_1 = 0 → Q (some (.int (-1))) mem_1))) : am_J m6_comes (D + 1) 0 [.ref 0, .int v1] [] mem Q := by
  refine am_aload_n (pc := 0) 0 dX6_comes_0 rfl rfl ?_
  refine am_getR (pc := 1) (k := 0) cl6 sh0 (by decide) (by decide) f6_10 rfl dX6_comes_1 ?_
  refine am_iload_n (pc := 4) 1 dX6_comes_4 rfl rfl ?_
  refine am_callV (pc := 5) m1_has D 1 [.int v1] (rest := []) ok1_has (by omega) rfl rfl sh1 (by decide) rfl l6_81 in1_has se1_has (Nat.le_of_ble_eq_true rfl) dX6_comes_5 ?_
  refine am_Ci.use h (fun r_1 mem_1 h => ?_)
  show am_J m6_comes (D + 1) 8 [.ref 0, .int v1] [.int r_1] mem_1 Q
  refine am_if_ne (pc := 8) 13 dX6_comes_8 (by decide) (fun c => ?_) (fun c => ?_)
  · replace h := h.1 c
    refine am_aload_n (pc := 13) 0 dX6_comes_13 rfl rfl ?_
    refine am_getR (pc := 14) (k := 4) cl6 sh0 (by decide) (by decide) f6_44 rfl dX6_comes_14 ?_
    refine am_callV (pc := 17) m4_grow D 0 [] (rest := []) ok4_grow (by omega) rfl rfl sh22 (by decide) rfl l6_179 in4_grow se4_grow (Nat.le_of_ble_eq_true rfl) dX6_comes_17 ?_
    refine am_Cv.use h (fun mem_2 h => ?_)
    show am_J m6_comes (D + 1) 20 [.ref 0, .int v1] [] mem_2 Q
    refine am_aload_n (pc := 20) 0 dX6_comes_20 rfl rfl ?_
    refine am_getR (pc := 21) (k := 4) cl6 sh0 (by decide) (by decide) f6_44 rfl dX6_comes_21 ?_
    refine am_getR (pc := 24) (k := 2) cl4 sh22 (by decide) (by decide) f6_182 rfl dX6_comes_24 ?_
    refine am_iload_n (pc := 27) 1 dX6_comes_27 rfl rfl ?_
    refine am_iald (pc := 28) sh23 (by decide) h.1 dX6_comes_28 ?_
    replace h := h.2
    exact am_ireturn rfl dX6_comes_29 h
  · replace h := h.2 c
    refine am_iconst (pc := 11) (v := -1) dX6_comes_11 rfl ?_
    exact am_ireturn rfl dX6_comes_12 h
set_option maxRecDepth 100000 in
set_option maxHeartbeats 4000000 in
theorem sg6_shownAt_0 {D : Nat} {mem : am_Mem} {Q : Option Value → am_Mem → Prop} {v1 : Int32} (h : am_Ci m1_has D [.ref 1, .int v1] mem (fun r_1 mem_1 => (¬ r_1 = 0 → am_Cv m4_grow D [.ref 22] mem_1 (fun mem_2 => vp_in v1 8 ∧ (Q (some (.int (mem_2 24 v1.toNatClampNeg))) mem_2))) ∧ (r_1 = 0 → Q (some (.int (-1))) mem_1))) : am_J m6_shownAt (D + 1) 0 [.ref 0, .int v1] [] mem Q := by
  refine am_aload_n (pc := 0) 0 dX6_shownAt_0 rfl rfl ?_
  refine am_getR (pc := 1) (k := 0) cl6 sh0 (by decide) (by decide) f6_10 rfl dX6_shownAt_1 ?_
  refine am_iload_n (pc := 4) 1 dX6_shownAt_4 rfl rfl ?_
  refine am_callV (pc := 5) m1_has D 1 [.int v1] (rest := []) ok1_has (by omega) rfl rfl sh1 (by decide) rfl l6_81 in1_has se1_has (Nat.le_of_ble_eq_true rfl) dX6_shownAt_5 ?_
  refine am_Ci.use h (fun r_1 mem_1 h => ?_)
  show am_J m6_shownAt (D + 1) 8 [.ref 0, .int v1] [.int r_1] mem_1 Q
  refine am_if_ne (pc := 8) 13 dX6_shownAt_8 (by decide) (fun c => ?_) (fun c => ?_)
  · replace h := h.1 c
    refine am_aload_n (pc := 13) 0 dX6_shownAt_13 rfl rfl ?_
    refine am_getR (pc := 14) (k := 4) cl6 sh0 (by decide) (by decide) f6_44 rfl dX6_shownAt_14 ?_
    refine am_callV (pc := 17) m4_grow D 0 [] (rest := []) ok4_grow (by omega) rfl rfl sh22 (by decide) rfl l6_179 in4_grow se4_grow (Nat.le_of_ble_eq_true rfl) dX6_shownAt_17 ?_
    refine am_Cv.use h (fun mem_2 h => ?_)
    show am_J m6_shownAt (D + 1) 20 [.ref 0, .int v1] [] mem_2 Q
    refine am_aload_n (pc := 20) 0 dX6_shownAt_20 rfl rfl ?_
    refine am_getR (pc := 21) (k := 4) cl6 sh0 (by decide) (by decide) f6_44 rfl dX6_shownAt_21 ?_
    refine am_getR (pc := 24) (k := 3) cl4 sh22 (by decide) (by decide) f6_185 rfl dX6_shownAt_24 ?_
    refine am_iload_n (pc := 27) 1 dX6_shownAt_27 rfl rfl ?_
    refine am_iald (pc := 28) sh24 (by decide) h.1 dX6_shownAt_28 ?_
    replace h := h.2
    exact am_ireturn rfl dX6_shownAt_29 h
  · replace h := h.2 c
    refine am_iconst (pc := 11) (v := -1) dX6_shownAt_11 rfl ?_
    exact am_ireturn rfl dX6_shownAt_12 h
set_option maxRecDepth 100000 in
set_option maxHeartbeats 4000000 in
theorem sg6_crosses_0 {D : Nat} {mem : am_Mem} {Q : Option Value → am_Mem → Prop} {v1 : Int32} (h : am_Ci m1_isSetForLines D [.ref 1, .int v1] mem (fun r_1 mem_1 => (¬ r_1 = 0 → am_Cv m2_deal D [.ref 26, .int v1] mem_1 (fun mem_2 => Q (some (.int (mem_2 26 5))) mem_2)) ∧ (r_1 = 0 → Q (some (.int (-2))) mem_1))) : am_J m6_crosses (D + 1) 0 [.ref 0, .int v1] [] mem Q := by
  refine am_aload_n (pc := 0) 0 dX6_crosses_0 rfl rfl ?_
  refine am_getR (pc := 1) (k := 0) cl6 sh0 (by decide) (by decide) f6_10 rfl dX6_crosses_1 ?_
  refine am_iload_n (pc := 4) 1 dX6_crosses_4 rfl rfl ?_
  refine am_callV (pc := 5) m1_isSetForLines D 1 [.int v1] (rest := []) ok1_isSetForLines (by omega) rfl rfl sh1 (by decide) rfl l6_186 in1_isSetForLines se1_isSetForLines (Nat.le_of_ble_eq_true rfl) dX6_crosses_5 ?_
  refine am_Ci.use h (fun r_1 mem_1 h => ?_)
  show am_J m6_crosses (D + 1) 8 [.ref 0, .int v1] [.int r_1] mem_1 Q
  refine am_if_ne (pc := 8) 14 dX6_crosses_8 (by decide) (fun c => ?_) (fun c => ?_)
  · replace h := h.1 c
    refine am_aload_n (pc := 14) 0 dX6_crosses_14 rfl rfl ?_
    refine am_getR (pc := 15) (k := 5) cl6 sh0 (by decide) (by decide) f6_51 rfl dX6_crosses_15 ?_
    refine am_iload_n (pc := 18) 1 dX6_crosses_18 rfl rfl ?_
    refine am_callV (pc := 19) m2_deal D 1 [.int v1] (rest := []) ok2_deal (by omega) rfl rfl sh26 (by decide) rfl l6_189 in2_deal se2_deal (Nat.le_of_ble_eq_true rfl) dX6_crosses_19 ?_
    refine am_Cv.use h (fun mem_2 h => ?_)
    show am_J m6_crosses (D + 1) 22 [.ref 0, .int v1] [] mem_2 Q
    refine am_aload_n (pc := 22) 0 dX6_crosses_22 rfl rfl ?_
    refine am_getR (pc := 23) (k := 5) cl6 sh0 (by decide) (by decide) f6_51 rfl dX6_crosses_23 ?_
    refine am_getI (pc := 26) (k := 5) cl2 sh26 (by decide) (by decide) f6_192 rfl dX6_crosses_26 ?_
    exact am_ireturn rfl dX6_crosses_29 h
  · replace h := h.2 c
    refine am_bipush (pc := 11) (v := -2) dX6_crosses_11 rfl ?_
    exact am_ireturn rfl dX6_crosses_13 h
set_option maxRecDepth 100000 in
set_option maxHeartbeats 4000000 in
theorem sg6_length_0 {D : Nat} {mem : am_Mem} {Q : Option Value → am_Mem → Prop} {v1 : Int32} (h : am_Ci m1_isSetForLines D [.ref 1, .int v1] mem (fun r_1 mem_1 => (¬ r_1 = 0 → am_Cv m2_deal D [.ref 26, .int v1] mem_1 (fun mem_2 => Q (some (.int (mem_2 26 6))) mem_2)) ∧ (r_1 = 0 → Q (some (.int (-2))) mem_1))) : am_J m6_length (D + 1) 0 [.ref 0, .int v1] [] mem Q := by
  refine am_aload_n (pc := 0) 0 dX6_length_0 rfl rfl ?_
  refine am_getR (pc := 1) (k := 0) cl6 sh0 (by decide) (by decide) f6_10 rfl dX6_length_1 ?_
  refine am_iload_n (pc := 4) 1 dX6_length_4 rfl rfl ?_
  refine am_callV (pc := 5) m1_isSetForLines D 1 [.int v1] (rest := []) ok1_isSetForLines (by omega) rfl rfl sh1 (by decide) rfl l6_186 in1_isSetForLines se1_isSetForLines (Nat.le_of_ble_eq_true rfl) dX6_length_5 ?_
  refine am_Ci.use h (fun r_1 mem_1 h => ?_)
  show am_J m6_length (D + 1) 8 [.ref 0, .int v1] [.int r_1] mem_1 Q
  refine am_if_ne (pc := 8) 14 dX6_length_8 (by decide) (fun c => ?_) (fun c => ?_)
  · replace h := h.1 c
    refine am_aload_n (pc := 14) 0 dX6_length_14 rfl rfl ?_
    refine am_getR (pc := 15) (k := 5) cl6 sh0 (by decide) (by decide) f6_51 rfl dX6_length_15 ?_
    refine am_iload_n (pc := 18) 1 dX6_length_18 rfl rfl ?_
    refine am_callV (pc := 19) m2_deal D 1 [.int v1] (rest := []) ok2_deal (by omega) rfl rfl sh26 (by decide) rfl l6_189 in2_deal se2_deal (Nat.le_of_ble_eq_true rfl) dX6_length_19 ?_
    refine am_Cv.use h (fun mem_2 h => ?_)
    show am_J m6_length (D + 1) 22 [.ref 0, .int v1] [] mem_2 Q
    refine am_aload_n (pc := 22) 0 dX6_length_22 rfl rfl ?_
    refine am_getR (pc := 23) (k := 5) cl6 sh0 (by decide) (by decide) f6_51 rfl dX6_length_23 ?_
    refine am_getI (pc := 26) (k := 6) cl2 sh26 (by decide) (by decide) f6_195 rfl dX6_length_26 ?_
    exact am_ireturn rfl dX6_length_29 h
  · replace h := h.2 c
    refine am_bipush (pc := 11) (v := -2) dX6_length_11 rfl ?_
    exact am_ireturn rfl dX6_length_13 h
set_option maxRecDepth 100000 in
set_option maxHeartbeats 4000000 in
theorem sg6_place_0 {D : Nat} {mem : am_Mem} {Q : Option Value → am_Mem → Prop} {v1 : Int32} {v2 : Int32} (h : am_Ci m1_isSetForLines D [.ref 1, .int v1] mem (fun r_1 mem_1 => (¬ r_1 = 0 → am_Ci m1_has D [.ref 1, .int v2] mem_1 (fun r_2 mem_2 => (r_2 = 0 → Q (some (.int (-1))) mem_2) ∧ (¬ r_2 = 0 → am_Ci m6_hasBit D [.int v1, .int v2] mem_2 (fun r_3 mem_3 => (¬ r_3 = 0 → am_Cv m2_deal D [.ref 26, .int v1] mem_3 (fun mem_4 => am_Ci m2_placeOf D [.ref 26, .int v2] mem_4 (fun r_5 mem_5 => Q (some (.int r_5)) mem_5))) ∧ (r_3 = 0 → Q (some (.int (-1))) mem_3))))) ∧ (r_1 = 0 → Q (some (.int (-2))) mem_1))) : am_J m6_place (D + 1) 0 [.ref 0, .int v1, .int v2] [] mem Q := by
  refine am_aload_n (pc := 0) 0 dX6_place_0 rfl rfl ?_
  refine am_getR (pc := 1) (k := 0) cl6 sh0 (by decide) (by decide) f6_10 rfl dX6_place_1 ?_
  refine am_iload_n (pc := 4) 1 dX6_place_4 rfl rfl ?_
  refine am_callV (pc := 5) m1_isSetForLines D 1 [.int v1] (rest := []) ok1_isSetForLines (by omega) rfl rfl sh1 (by decide) rfl l6_186 in1_isSetForLines se1_isSetForLines (Nat.le_of_ble_eq_true rfl) dX6_place_5 ?_
  refine am_Ci.use h (fun r_1 mem_1 h => ?_)
  show am_J m6_place (D + 1) 8 [.ref 0, .int v1, .int v2] [.int r_1] mem_1 Q
  refine am_if_ne (pc := 8) 14 dX6_place_8 (by decide) (fun c => ?_) (fun c => ?_)
  · replace h := h.1 c
    refine am_aload_n (pc := 14) 0 dX6_place_14 rfl rfl ?_
    refine am_getR (pc := 15) (k := 0) cl6 sh0 (by decide) (by decide) f6_10 rfl dX6_place_15 ?_
    refine am_iload_n (pc := 18) 2 dX6_place_18 rfl rfl ?_
    refine am_callV (pc := 19) m1_has D 1 [.int v2] (rest := []) ok1_has (by omega) rfl rfl sh1 (by decide) rfl l6_81 in1_has se1_has (Nat.le_of_ble_eq_true rfl) dX6_place_19 ?_
    refine am_Ci.use h (fun r_2 mem_2 h => ?_)
    show am_J m6_place (D + 1) 22 [.ref 0, .int v1, .int v2] [.int r_2] mem_2 Q
    refine am_if_eq (pc := 22) 33 dX6_place_22 (by decide) (fun c => ?_) (fun c => ?_)
    · replace h := h.1 c
      refine am_iconst (pc := 33) (v := -1) dX6_place_33 rfl ?_
      exact am_ireturn rfl dX6_place_34 h
    · replace h := h.2 c
      refine am_iload_n (pc := 25) 1 dX6_place_25 rfl rfl ?_
      refine am_iload_n (pc := 26) 2 dX6_place_26 rfl rfl ?_
      refine am_callS (pc := 27) m6_hasBit D 2 [.int v1, .int v2] (rest := []) ok6_hasBit (by omega) rfl rfl l6_198 st6_hasBit (Nat.le_of_ble_eq_true rfl) dX6_place_27 ?_
      refine am_Ci.use h (fun r_3 mem_3 h => ?_)
      show am_J m6_place (D + 1) 30 [.ref 0, .int v1, .int v2] [.int r_3] mem_3 Q
      refine am_if_ne (pc := 30) 35 dX6_place_30 (by decide) (fun c => ?_) (fun c => ?_)
      · replace h := h.1 c
        refine am_aload_n (pc := 35) 0 dX6_place_35 rfl rfl ?_
        refine am_getR (pc := 36) (k := 5) cl6 sh0 (by decide) (by decide) f6_51 rfl dX6_place_36 ?_
        refine am_iload_n (pc := 39) 1 dX6_place_39 rfl rfl ?_
        refine am_callV (pc := 40) m2_deal D 1 [.int v1] (rest := []) ok2_deal (by omega) rfl rfl sh26 (by decide) rfl l6_189 in2_deal se2_deal (Nat.le_of_ble_eq_true rfl) dX6_place_40 ?_
        refine am_Cv.use h (fun mem_4 h => ?_)
        show am_J m6_place (D + 1) 43 [.ref 0, .int v1, .int v2] [] mem_4 Q
        refine am_aload_n (pc := 43) 0 dX6_place_43 rfl rfl ?_
        refine am_getR (pc := 44) (k := 5) cl6 sh0 (by decide) (by decide) f6_51 rfl dX6_place_44 ?_
        refine am_iload_n (pc := 47) 2 dX6_place_47 rfl rfl ?_
        refine am_callV (pc := 48) m2_placeOf D 1 [.int v2] (rest := []) ok2_placeOf (by omega) rfl rfl sh26 (by decide) rfl l6_201 in2_placeOf se2_placeOf (Nat.le_of_ble_eq_true rfl) dX6_place_48 ?_
        refine am_Ci.use h (fun r_5 mem_5 h => ?_)
        show am_J m6_place (D + 1) 51 [.ref 0, .int v1, .int v2] [.int r_5] mem_5 Q
        exact am_ireturn rfl dX6_place_51 h
      · replace h := h.2 c
        refine am_iconst (pc := 33) (v := -1) dX6_place_33 rfl ?_
        exact am_ireturn rfl dX6_place_34 h
  · replace h := h.2 c
    refine am_bipush (pc := 11) (v := -2) dX6_place_11 rfl ?_
    exact am_ireturn rfl dX6_place_13 h
set_option maxRecDepth 100000 in
set_option maxHeartbeats 4000000 in
theorem sg6_cross_0 {D : Nat} {mem : am_Mem} {Q : Option Value → am_Mem → Prop} {v1 : Int32} {v2 : Int32} {v3 : Int32} {v4 : Int32} (h : am_Ci m1_has D [.ref 1, .int v1] mem (fun r_1 mem_1 => (r_1 = 0 → Q (some (.int (-1))) mem_1) ∧ (¬ r_1 = 0 → am_Ci m1_has D [.ref 1, .int v3] mem_1 (fun r_2 mem_2 => (¬ r_2 = 0 → am_Ci m6_isIn D [.int v2, .int 0, .int (mem_2 1 1)] mem_2 (fun r_3 mem_3 => (r_3 = 0 → Q (some (.int (-2))) mem_3) ∧ (¬ r_3 = 0 → am_Ci m6_isIn D [.int v4, .int 0, .int (mem_3 1 1)] mem_3 (fun r_4 mem_4 => (¬ r_4 = 0 → (¬ v1 = v3 → am_Ci m2_doCross D [.ref 26, .int v1, .int v2, .int v3, .int v4] mem_4 (fun r_5 mem_5 => am_Ci m6_toInt D [.int r_5] mem_5 (fun r_6 mem_6 => Q (some (.int r_6)) mem_6))) ∧ (v1 = v3 → Q (some (.int (-3))) mem_4)) ∧ (r_4 = 0 → Q (some (.int (-2))) mem_4))))) ∧ (r_2 = 0 → Q (some (.int (-1))) mem_2))))) : am_J m6_cross (D + 1) 0 [.ref 0, .int v1, .int v2, .int v3, .int v4] [] mem Q := by
  refine am_aload_n (pc := 0) 0 dX6_cross_0 rfl rfl ?_
  refine am_getR (pc := 1) (k := 0) cl6 sh0 (by decide) (by decide) f6_10 rfl dX6_cross_1 ?_
  refine am_iload_n (pc := 4) 1 dX6_cross_4 rfl rfl ?_
  refine am_callV (pc := 5) m1_has D 1 [.int v1] (rest := []) ok1_has (by omega) rfl rfl sh1 (by decide) rfl l6_81 in1_has se1_has (Nat.le_of_ble_eq_true rfl) dX6_cross_5 ?_
  refine am_Ci.use h (fun r_1 mem_1 h => ?_)
  show am_J m6_cross (D + 1) 8 [.ref 0, .int v1, .int v2, .int v3, .int v4] [.int r_1] mem_1 Q
  refine am_if_eq (pc := 8) 22 dX6_cross_8 (by decide) (fun c => ?_) (fun c => ?_)
  · replace h := h.1 c
    refine am_iconst (pc := 22) (v := -1) dX6_cross_22 rfl ?_
    exact am_ireturn rfl dX6_cross_23 h
  · replace h := h.2 c
    refine am_aload_n (pc := 11) 0 dX6_cross_11 rfl rfl ?_
    refine am_getR (pc := 12) (k := 0) cl6 sh0 (by decide) (by decide) f6_10 rfl dX6_cross_12 ?_
    refine am_iload_n (pc := 15) 3 dX6_cross_15 rfl rfl ?_
    refine am_callV (pc := 16) m1_has D 1 [.int v3] (rest := []) ok1_has (by omega) rfl rfl sh1 (by decide) rfl l6_81 in1_has se1_has (Nat.le_of_ble_eq_true rfl) dX6_cross_16 ?_
    refine am_Ci.use h (fun r_2 mem_2 h => ?_)
    show am_J m6_cross (D + 1) 19 [.ref 0, .int v1, .int v2, .int v3, .int v4] [.int r_2] mem_2 Q
    refine am_if_ne (pc := 19) 24 dX6_cross_19 (by decide) (fun c => ?_) (fun c => ?_)
    · replace h := h.1 c
      refine am_iload_n (pc := 24) 2 dX6_cross_24 rfl rfl ?_
      refine am_iconst (pc := 25) (v := 0) dX6_cross_25 rfl ?_
      refine am_aload_n (pc := 26) 0 dX6_cross_26 rfl rfl ?_
      refine am_getR (pc := 27) (k := 0) cl6 sh0 (by decide) (by decide) f6_10 rfl dX6_cross_27 ?_
      refine am_getI (pc := 30) (k := 1) cl1 sh1 (by decide) (by decide) f6_63 rfl dX6_cross_30 ?_
      refine am_callS (pc := 33) m6_isIn D 3 [.int v2, .int 0, .int (mem_2 1 1)] (rest := []) ok6_isIn (by omega) rfl rfl l6_55 st6_isIn (Nat.le_of_ble_eq_true rfl) dX6_cross_33 ?_
      refine am_Ci.use h (fun r_3 mem_3 h => ?_)
      show am_J m6_cross (D + 1) 36 [.ref 0, .int v1, .int v2, .int v3, .int v4] [.int r_3] mem_3 Q
      refine am_if_eq (pc := 36) 55 dX6_cross_36 (by decide) (fun c => ?_) (fun c => ?_)
      · replace h := h.1 c
        refine am_bipush (pc := 55) (v := -2) dX6_cross_55 rfl ?_
        exact am_ireturn rfl dX6_cross_57 h
      · replace h := h.2 c
        refine am_iload (pc := 39) dX6_cross_39 rfl ?_
        refine am_iconst (pc := 41) (v := 0) dX6_cross_41 rfl ?_
        refine am_aload_n (pc := 42) 0 dX6_cross_42 rfl rfl ?_
        refine am_getR (pc := 43) (k := 0) cl6 sh0 (by decide) (by decide) f6_10 rfl dX6_cross_43 ?_
        refine am_getI (pc := 46) (k := 1) cl1 sh1 (by decide) (by decide) f6_63 rfl dX6_cross_46 ?_
        refine am_callS (pc := 49) m6_isIn D 3 [.int v4, .int 0, .int (mem_3 1 1)] (rest := []) ok6_isIn (by omega) rfl rfl l6_55 st6_isIn (Nat.le_of_ble_eq_true rfl) dX6_cross_49 ?_
        refine am_Ci.use h (fun r_4 mem_4 h => ?_)
        show am_J m6_cross (D + 1) 52 [.ref 0, .int v1, .int v2, .int v3, .int v4] [.int r_4] mem_4 Q
        refine am_if_ne (pc := 52) 58 dX6_cross_52 (by decide) (fun c => ?_) (fun c => ?_)
        · replace h := h.1 c
          refine am_iload_n (pc := 58) 1 dX6_cross_58 rfl rfl ?_
          refine am_iload_n (pc := 59) 3 dX6_cross_59 rfl rfl ?_
          refine am_icmp_ne (pc := 60) 66 dX6_cross_60 (by decide) (fun c => ?_) (fun c => ?_)
          · replace h := h.1 c
            refine am_aload_n (pc := 66) 0 dX6_cross_66 rfl rfl ?_
            refine am_getR (pc := 67) (k := 5) cl6 sh0 (by decide) (by decide) f6_51 rfl dX6_cross_67 ?_
            refine am_iload_n (pc := 70) 1 dX6_cross_70 rfl rfl ?_
            refine am_iload_n (pc := 71) 2 dX6_cross_71 rfl rfl ?_
            refine am_iload_n (pc := 72) 3 dX6_cross_72 rfl rfl ?_
            refine am_iload (pc := 73) dX6_cross_73 rfl ?_
            refine am_callV (pc := 75) m2_doCross D 4 [.int v1, .int v2, .int v3, .int v4] (rest := []) ok2_doCross (by omega) rfl rfl sh26 (by decide) rfl l6_204 in2_doCross se2_doCross (Nat.le_of_ble_eq_true rfl) dX6_cross_75 ?_
            refine am_Ci.use h (fun r_5 mem_5 h => ?_)
            show am_J m6_cross (D + 1) 78 [.ref 0, .int v1, .int v2, .int v3, .int v4] [.int r_5] mem_5 Q
            refine am_callS (pc := 78) m6_toInt D 1 [.int r_5] (rest := []) ok6_toInt (by omega) rfl rfl l6_102 st6_toInt (Nat.le_of_ble_eq_true rfl) dX6_cross_78 ?_
            refine am_Ci.use h (fun r_6 mem_6 h => ?_)
            show am_J m6_cross (D + 1) 81 [.ref 0, .int v1, .int v2, .int v3, .int v4] [.int r_6] mem_6 Q
            exact am_ireturn rfl dX6_cross_81 h
          · replace h := h.2 c
            refine am_bipush (pc := 63) (v := -3) dX6_cross_63 rfl ?_
            exact am_ireturn rfl dX6_cross_65 h
        · replace h := h.2 c
          refine am_bipush (pc := 55) (v := -2) dX6_cross_55 rfl ?_
          exact am_ireturn rfl dX6_cross_57 h
    · replace h := h.2 c
      refine am_iconst (pc := 22) (v := -1) dX6_cross_22 rfl ?_
      exact am_ireturn rfl dX6_cross_23 h
set_option maxRecDepth 100000 in
set_option maxHeartbeats 4000000 in
theorem sg6_count_0 {D : Nat} {mem : am_Mem} {Q : Option Value → am_Mem → Prop} {v1 : Int32} (h : (v1.toInt = 0 → Q (some (.int (mem 1 4))) mem) ∧ (v1.toInt = 1 → Q (some (.int (mem 1 0))) mem) ∧ (v1.toInt = 2 → Q (some (.int (mem 1 1))) mem) ∧ (v1.toInt = 3 → am_Cv m5_study D [.ref 15, .int (mem 1 2)] mem (fun mem_1 => am_Ci m1_everySite D [.ref 1] mem_1 (fun r_2 mem_2 => am_Ci m5_freeBoxes D [.ref 15, .int r_2] mem_2 (fun r_3 mem_3 => am_Ci mJ6_bitCount_0f7a4 D [.int r_3] mem_3 (fun r_4 mem_4 => Q (some (.int r_4)) mem_4))))) ∧ (v1.toInt = 4 → am_Cv m5_study D [.ref 15, .int (mem 1 2)] mem (fun mem_5 => am_Ci m1_everySite D [.ref 1] mem_5 (fun r_6 mem_6 => am_Ci m5_freeBoxes D [.ref 15, .int r_6] mem_6 (fun r_7 mem_7 => am_Ci m5_countClashes D [.ref 15, .int r_7] mem_7 (fun r_8 mem_8 => Q (some (.int r_8)) mem_8))))) ∧ ((v1.toInt < 0 ∨ 4 < v1.toInt) → Q (some (.int (-2))) mem)) : am_J m6_count (D + 1) 0 [.ref 0, .int v1] [] mem Q := by
  refine am_iload_n (pc := 0) 1 dX6_count_0 rfl rfl ?_
  refine am_table (pc := 1) dX6_count_1 128 (by decide) [36, 44, 52, 60, 92] (by decide) (by decide) (fun j t ht hx => ?_) (fun hx => ?_)
  · match j, ht with
    | 0, ht =>
      cases ht
      replace h := h.1 hx
      refine am_aload_n (pc := 36) 0 dX6_count_36 rfl rfl ?_
      refine am_getR (pc := 37) (k := 0) cl6 sh0 (by decide) (by decide) f6_10 rfl dX6_count_37 ?_
      refine am_getI (pc := 40) (k := 4) cl1 sh1 (by decide) (by decide) f6_66 rfl dX6_count_40 ?_
      exact am_ireturn rfl dX6_count_43 h
    | 1, ht =>
      cases ht
      replace h := h.2.1 hx
      refine am_aload_n (pc := 44) 0 dX6_count_44 rfl rfl ?_
      refine am_getR (pc := 45) (k := 0) cl6 sh0 (by decide) (by decide) f6_10 rfl dX6_count_45 ?_
      refine am_getI (pc := 48) (k := 0) cl1 sh1 (by decide) (by decide) f6_59 rfl dX6_count_48 ?_
      exact am_ireturn rfl dX6_count_51 h
    | 2, ht =>
      cases ht
      replace h := h.2.2.1 hx
      refine am_aload_n (pc := 52) 0 dX6_count_52 rfl rfl ?_
      refine am_getR (pc := 53) (k := 0) cl6 sh0 (by decide) (by decide) f6_10 rfl dX6_count_53 ?_
      refine am_getI (pc := 56) (k := 1) cl1 sh1 (by decide) (by decide) f6_63 rfl dX6_count_56 ?_
      exact am_ireturn rfl dX6_count_59 h
    | 3, ht =>
      cases ht
      replace h := h.2.2.2.1 hx
      refine am_aload_n (pc := 60) 0 dX6_count_60 rfl rfl ?_
      refine am_getR (pc := 61) (k := 2) cl6 sh0 (by decide) (by decide) f6_30 rfl dX6_count_61 ?_
      refine am_aload_n (pc := 64) 0 dX6_count_64 rfl rfl ?_
      refine am_getR (pc := 65) (k := 0) cl6 sh0 (by decide) (by decide) f6_10 rfl dX6_count_65 ?_
      refine am_getI (pc := 68) (k := 2) cl1 sh1 (by decide) (by decide) f6_106 rfl dX6_count_68 ?_
      refine am_callV (pc := 71) m5_study D 1 [.int (mem 1 2)] (rest := []) ok5_study (by omega) rfl rfl sh15 (by decide) rfl l6_143 in5_study se5_study (Nat.le_of_ble_eq_true rfl) dX6_count_71 ?_
      refine am_Cv.use h (fun mem_1 h => ?_)
      show am_J m6_count (D + 1) 74 [.ref 0, .int v1] [] mem_1 Q
      refine am_aload_n (pc := 74) 0 dX6_count_74 rfl rfl ?_
      refine am_getR (pc := 75) (k := 2) cl6 sh0 (by decide) (by decide) f6_30 rfl dX6_count_75 ?_
      refine am_aload_n (pc := 78) 0 dX6_count_78 rfl rfl ?_
      refine am_getR (pc := 79) (k := 0) cl6 sh0 (by decide) (by decide) f6_10 rfl dX6_count_79 ?_
      refine am_callV (pc := 82) m1_everySite D 0 [] (rest := [.ref 15]) ok1_everySite (by omega) rfl rfl sh1 (by decide) rfl l6_157 in1_everySite se1_everySite (Nat.le_of_ble_eq_true rfl) dX6_count_82 ?_
      refine am_Ci.use h (fun r_2 mem_2 h => ?_)
      show am_J m6_count (D + 1) 85 [.ref 0, .int v1] [.int r_2, .ref 15] mem_2 Q
      refine am_callV (pc := 85) m5_freeBoxes D 1 [.int r_2] (rest := []) ok5_freeBoxes (by omega) rfl rfl sh15 (by decide) rfl l6_208 in5_freeBoxes se5_freeBoxes (Nat.le_of_ble_eq_true rfl) dX6_count_85 ?_
      refine am_Ci.use h (fun r_3 mem_3 h => ?_)
      show am_J m6_count (D + 1) 88 [.ref 0, .int v1] [.int r_3] mem_3 Q
      refine am_callS (pc := 88) mJ6_bitCount_0f7a4 D 1 [.int r_3] (rest := []) okJ6_bitCount_0f7a4 (by omega) rfl rfl l6_211 stJ6_bitCount_0f7a4 (Nat.le_of_ble_eq_true rfl) dX6_count_88 ?_
      refine am_Ci.use h (fun r_4 mem_4 h => ?_)
      show am_J m6_count (D + 1) 91 [.ref 0, .int v1] [.int r_4] mem_4 Q
      exact am_ireturn rfl dX6_count_91 h
    | 4, ht =>
      cases ht
      replace h := h.2.2.2.2.1 hx
      refine am_aload_n (pc := 92) 0 dX6_count_92 rfl rfl ?_
      refine am_getR (pc := 93) (k := 2) cl6 sh0 (by decide) (by decide) f6_30 rfl dX6_count_93 ?_
      refine am_aload_n (pc := 96) 0 dX6_count_96 rfl rfl ?_
      refine am_getR (pc := 97) (k := 0) cl6 sh0 (by decide) (by decide) f6_10 rfl dX6_count_97 ?_
      refine am_getI (pc := 100) (k := 2) cl1 sh1 (by decide) (by decide) f6_106 rfl dX6_count_100 ?_
      refine am_callV (pc := 103) m5_study D 1 [.int (mem 1 2)] (rest := []) ok5_study (by omega) rfl rfl sh15 (by decide) rfl l6_143 in5_study se5_study (Nat.le_of_ble_eq_true rfl) dX6_count_103 ?_
      refine am_Cv.use h (fun mem_5 h => ?_)
      show am_J m6_count (D + 1) 106 [.ref 0, .int v1] [] mem_5 Q
      refine am_aload_n (pc := 106) 0 dX6_count_106 rfl rfl ?_
      refine am_getR (pc := 107) (k := 2) cl6 sh0 (by decide) (by decide) f6_30 rfl dX6_count_107 ?_
      refine am_aload_n (pc := 110) 0 dX6_count_110 rfl rfl ?_
      refine am_getR (pc := 111) (k := 2) cl6 sh0 (by decide) (by decide) f6_30 rfl dX6_count_111 ?_
      refine am_aload_n (pc := 114) 0 dX6_count_114 rfl rfl ?_
      refine am_getR (pc := 115) (k := 0) cl6 sh0 (by decide) (by decide) f6_10 rfl dX6_count_115 ?_
      refine am_callV (pc := 118) m1_everySite D 0 [] (rest := [.ref 15, .ref 15]) ok1_everySite (by omega) rfl rfl sh1 (by decide) rfl l6_157 in1_everySite se1_everySite (Nat.le_of_ble_eq_true rfl) dX6_count_118 ?_
      refine am_Ci.use h (fun r_6 mem_6 h => ?_)
      show am_J m6_count (D + 1) 121 [.ref 0, .int v1] [.int r_6, .ref 15, .ref 15] mem_6 Q
      refine am_callV (pc := 121) m5_freeBoxes D 1 [.int r_6] (rest := [.ref 15]) ok5_freeBoxes (by omega) rfl rfl sh15 (by decide) rfl l6_208 in5_freeBoxes se5_freeBoxes (Nat.le_of_ble_eq_true rfl) dX6_count_121 ?_
      refine am_Ci.use h (fun r_7 mem_7 h => ?_)
      show am_J m6_count (D + 1) 124 [.ref 0, .int v1] [.int r_7, .ref 15] mem_7 Q
      refine am_callV (pc := 124) m5_countClashes D 1 [.int r_7] (rest := []) ok5_countClashes (by omega) rfl rfl sh15 (by decide) rfl l6_216 in5_countClashes se5_countClashes (Nat.le_of_ble_eq_true rfl) dX6_count_124 ?_
      refine am_Ci.use h (fun r_8 mem_8 h => ?_)
      show am_J m6_count (D + 1) 127 [.ref 0, .int v1] [.int r_8] mem_8 Q
      exact am_ireturn rfl dX6_count_127 h
    | j + 5, ht => simp at ht
  · replace h := h.2.2.2.2.2 hx
    refine am_bipush (pc := 128) (v := -2) dX6_count_128 rfl ?_
    exact am_ireturn rfl dX6_count_130 h
set_option maxRecDepth 100000 in
set_option maxHeartbeats 4000000 in
theorem sg6_isIn_0 {D : Nat} {mem : am_Mem} {Q : Option Value → am_Mem → Prop} {v0 : Int32} {v1 : Int32} {v2 : Int32} (h : (v0 < v1 → Q (some (.int 0)) mem) ∧ (¬ v0 < v1 → (v2 < v0 → Q (some (.int 0)) mem) ∧ (¬ v2 < v0 → Q (some (.int 1)) mem))) : am_J m6_isIn D 0 [.int v0, .int v1, .int v2] [] mem Q := by
  refine am_iload_n (pc := 0) 1 dX6_isIn_0 rfl rfl ?_
  refine am_iload_n (pc := 1) 0 dX6_isIn_1 rfl rfl ?_
  refine am_icmp_gt (pc := 2) 14 dX6_isIn_2 (by decide) (fun c => ?_) (fun c => ?_)
  · replace h := h.1 c
    refine am_iconst (pc := 14) (v := 0) dX6_isIn_14 rfl ?_
    exact am_zreturn rfl (by decide) dX6_isIn_15 h
  · replace h := h.2 c
    refine am_iload_n (pc := 5) 0 dX6_isIn_5 rfl rfl ?_
    refine am_iload_n (pc := 6) 2 dX6_isIn_6 rfl rfl ?_
    refine am_icmp_gt (pc := 7) 14 dX6_isIn_7 (by decide) (fun c => ?_) (fun c => ?_)
    · replace h := h.1 c
      refine am_iconst (pc := 14) (v := 0) dX6_isIn_14 rfl ?_
      exact am_zreturn rfl (by decide) dX6_isIn_15 h
    · replace h := h.2 c
      refine am_iconst (pc := 10) (v := 1) dX6_isIn_10 rfl ?_
      refine am_goto (pc := 11) 15 dX6_isIn_11 (by decide) ?_
      exact am_zreturn rfl (by decide) dX6_isIn_15 h
set_option maxRecDepth 100000 in
set_option maxHeartbeats 4000000 in
theorem sg6_isCorner_0 {D : Nat} {mem : am_Mem} {Q : Option Value → am_Mem → Prop} {v0 : Int32} (h : am_Ci m6_isIn D [.int v0, .int 0, .int 3] mem (fun r_1 mem_1 => (r_1 = 0 ∨ r_1 = 1) ∧ Q (some (.int r_1)) mem_1)) : am_J m6_isCorner (D + 1) 0 [.int v0] [] mem Q := by
  refine am_iload_n (pc := 0) 0 dX6_isCorner_0 rfl rfl ?_
  refine am_iconst (pc := 1) (v := 0) dX6_isCorner_1 rfl ?_
  refine am_iconst (pc := 2) (v := 3) dX6_isCorner_2 rfl ?_
  refine am_callS (pc := 3) m6_isIn D 3 [.int v0, .int 0, .int 3] (rest := []) ok6_isIn (by omega) rfl rfl l6_55 st6_isIn (Nat.le_of_ble_eq_true rfl) dX6_isCorner_3 ?_
  refine am_Ci.use h (fun r_1 mem_1 h => ?_)
  show am_J m6_isCorner (D + 1) 6 [.int v0] [.int r_1] mem_1 Q
  exact am_zreturn rfl h.1 dX6_isCorner_6 h.2
set_option maxRecDepth 100000 in
set_option maxHeartbeats 4000000 in
theorem sg6_boxOf_0 {D : Nat} {mem : am_Mem} {Q : Option Value → am_Mem → Prop} {v0 : Int32} {v1 : Int32} (h : Q (some (.int (((4 : Int32) * v0) + v1))) mem) : am_J m6_boxOf D 0 [.int v0, .int v1] [] mem Q := by
  refine am_iconst (pc := 0) (v := 4) dX6_boxOf_0 rfl ?_
  refine am_iload_n (pc := 1) 0 dX6_boxOf_1 rfl rfl ?_
  refine am_imul (pc := 2) dX6_boxOf_2 ?_
  refine am_iload_n (pc := 3) 1 dX6_boxOf_3 rfl rfl ?_
  refine am_iadd (pc := 4) dX6_boxOf_4 ?_
  exact am_ireturn rfl dX6_boxOf_5 h
set_option maxRecDepth 100000 in
set_option maxHeartbeats 4000000 in
theorem sg6_boxesOf_0 {D : Nat} {mem : am_Mem} {Q : Option Value → am_Mem → Prop} {v0 : Int32} (h : am_Ci m6_boxOf D [.int v0, .int 0] mem (fun r_1 mem_1 => Q (some (.int ((15 : Int32) <<< (r_1 &&& 31)))) mem_1)) : am_J m6_boxesOf (D + 1) 0 [.int v0] [] mem Q := by
  refine am_bipush (pc := 0) (v := 15) dX6_boxesOf_0 rfl ?_
  refine am_iload_n (pc := 2) 0 dX6_boxesOf_2 rfl rfl ?_
  refine am_iconst (pc := 3) (v := 0) dX6_boxesOf_3 rfl ?_
  refine am_callS (pc := 4) m6_boxOf D 2 [.int v0, .int 0] (rest := [.int 15]) ok6_boxOf (by omega) rfl rfl l6_94 st6_boxOf (Nat.le_of_ble_eq_true rfl) dX6_boxesOf_4 ?_
  refine am_Ci.use h (fun r_1 mem_1 h => ?_)
  show am_J m6_boxesOf (D + 1) 7 [.int v0] [.int r_1, .int 15] mem_1 Q
  refine am_ishl (pc := 7) dX6_boxesOf_7 ?_
  exact am_ireturn rfl dX6_boxesOf_8 h
set_option maxRecDepth 100000 in
set_option maxHeartbeats 4000000 in
theorem sg6_hasBit_0 {D : Nat} {mem : am_Mem} {Q : Option Value → am_Mem → Prop} {v0 : Int32} {v1 : Int32} (h : (¬ ((((v0).toUInt32 >>> ((v1).toUInt32 &&& Int32.toUInt32 31)).toInt32) &&& (1 : Int32)) = 1 → Q (some (.int 0)) mem) ∧ (((((v0).toUInt32 >>> ((v1).toUInt32 &&& Int32.toUInt32 31)).toInt32) &&& (1 : Int32)) = 1 → Q (some (.int 1)) mem)) : am_J m6_hasBit D 0 [.int v0, .int v1] [] mem Q := by
  refine am_iload_n (pc := 0) 0 dX6_hasBit_0 rfl rfl ?_
  refine am_iload_n (pc := 1) 1 dX6_hasBit_1 rfl rfl ?_
  refine am_iushr (pc := 2) dX6_hasBit_2 ?_
  refine am_iconst (pc := 3) (v := 1) dX6_hasBit_3 rfl ?_
  refine am_iand (pc := 4) dX6_hasBit_4 ?_
  refine am_iconst (pc := 5) (v := 1) dX6_hasBit_5 rfl ?_
  refine am_icmp_ne (pc := 6) 13 dX6_hasBit_6 (by decide) (fun c => ?_) (fun c => ?_)
  · replace h := h.1 c
    refine am_iconst (pc := 13) (v := 0) dX6_hasBit_13 rfl ?_
    exact am_zreturn rfl (by decide) dX6_hasBit_14 h
  · replace h := h.2 c
    refine am_iconst (pc := 9) (v := 1) dX6_hasBit_9 rfl ?_
    refine am_goto (pc := 10) 14 dX6_hasBit_10 (by decide) ?_
    exact am_zreturn rfl (by decide) dX6_hasBit_14 h
set_option maxRecDepth 100000 in
set_option maxHeartbeats 4000000 in
theorem sg6_toInt_0 {D : Nat} {mem : am_Mem} {Q : Option Value → am_Mem → Prop} {v0 : Int32} (h : (v0 = 0 → Q (some (.int 0)) mem) ∧ (¬ v0 = 0 → Q (some (.int 1)) mem)) : am_J m6_toInt D 0 [.int v0] [] mem Q := by
  refine am_iload_n (pc := 0) 0 dX6_toInt_0 rfl rfl ?_
  refine am_if_eq (pc := 1) 8 dX6_toInt_1 (by decide) (fun c => ?_) (fun c => ?_)
  · replace h := h.1 c
    refine am_iconst (pc := 8) (v := 0) dX6_toInt_8 rfl ?_
    exact am_ireturn rfl dX6_toInt_9 h
  · replace h := h.2 c
    refine am_iconst (pc := 4) (v := 1) dX6_toInt_4 rfl ?_
    refine am_goto (pc := 5) 9 dX6_toInt_5 (by decide) ?_
    exact am_ireturn rfl dX6_toInt_9 h
set_option maxRecDepth 100000 in
set_option maxHeartbeats 4000000 in
theorem sg6_sized_0 {D : Nat} {mem : am_Mem} {Q : Option Value → am_Mem → Prop} {v0 : Int32} {v1 : Int32} (h : Q (some (.int (if 1 < ((v0 * v1) / 10) then ((v0 * v1) / 10) else 1))) mem) : am_J m6_sized (D + 1) 0 [.int v0, .int v1] [] mem Q := by
  refine am_iconst (pc := 0) (v := 1) dX6_sized_0 rfl ?_
  refine am_iload_n (pc := 1) 0 dX6_sized_1 rfl rfl ?_
  refine am_iload_n (pc := 2) 1 dX6_sized_2 rfl rfl ?_
  refine am_imul (pc := 3) dX6_sized_3 ?_
  refine am_bipush (pc := 4) (v := 10) dX6_sized_4 rfl ?_
  refine am_idiv (pc := 6) dX6_sized_6 (by decide) ?_
  refine am_mmax (pc := 7) l6_219 (by omega) (Nat.le_of_ble_eq_true rfl) dX6_sized_7 ?_
  exact am_ireturn rfl dX6_sized_10 h
