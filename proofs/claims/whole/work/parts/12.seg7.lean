set_option maxRecDepth 100000 in
set_option maxHeartbeats 4000000 in
theorem sg7_in_0 {D : Nat} {mem : am_Mem} {Q : Option Value → am_Mem → Prop} {v0 : Int64} {v2 : Int64} {v4 : Int64} (h : ((lg_cmp v0 v2) < 0 → Q (some (.int 0)) mem) ∧ (¬ (lg_cmp v0 v2) < 0 → (0 < (lg_cmp v0 v4) → Q (some (.int 0)) mem) ∧ (¬ 0 < (lg_cmp v0 v4) → Q (some (.int 1)) mem))) : am_J m7_in D 0 [.long v0, .null, .long v2, .null, .long v4, .null] [] mem Q := by
  refine am_lload_n (pc := 0) 0 dX7_in_0 rfl rfl ?_
  refine am_lload_n (pc := 1) 2 dX7_in_1 rfl rfl ?_
  refine am_lcmp (pc := 2) dX7_in_2 ?_
  refine am_if_lt (pc := 3) 17 dX7_in_3 (by decide) (fun c => ?_) (fun c => ?_)
  · replace h := h.1 c
    refine am_iconst (pc := 17) (v := 0) dX7_in_17 rfl ?_
    exact am_zreturn rfl (by decide) dX7_in_18 h
  · replace h := h.2 c
    refine am_lload_n (pc := 6) 0 dX7_in_6 rfl rfl ?_
    refine am_lload (pc := 7) dX7_in_7 rfl ?_
    refine am_lcmp (pc := 9) dX7_in_9 ?_
    refine am_if_gt (pc := 10) 17 dX7_in_10 (by decide) (fun c => ?_) (fun c => ?_)
    · replace h := h.1 c
      refine am_iconst (pc := 17) (v := 0) dX7_in_17 rfl ?_
      exact am_zreturn rfl (by decide) dX7_in_18 h
    · replace h := h.2 c
      refine am_iconst (pc := 13) (v := 1) dX7_in_13 rfl ?_
      refine am_goto (pc := 14) 18 dX7_in_14 (by decide) ?_
      exact am_zreturn rfl (by decide) dX7_in_18 h
set_option maxRecDepth 100000 in
set_option maxHeartbeats 4000000 in
theorem sg7_isSite_0 {D : Nat} {mem : am_Mem} {Q : Option Value → am_Mem → Prop} {v1 : Int32} (h : am_Ci m7_in D [.long ((v1).toInt64), .long 0, .long (((mem 30 2) - (1 : Int32)).toInt64)] mem (fun r_1 mem_1 => (r_1 = 0 ∨ r_1 = 1) ∧ Q (some (.int r_1)) mem_1)) : am_J m7_isSite (D + 1) 0 [.ref 30, .int v1] [] mem Q := by
  refine am_iload_n (pc := 0) 1 dX7_isSite_0 rfl rfl ?_
  refine am_i2l (pc := 1) dX7_isSite_1 ?_
  refine am_lconst (pc := 2) (v := 0) dX7_isSite_2 rfl ?_
  refine am_aload_n (pc := 3) 0 dX7_isSite_3 rfl rfl ?_
  refine am_getI (pc := 4) (k := 2) cl7 sh30 (by decide) (by decide) f7_74 rfl dX7_isSite_4 ?_
  refine am_iconst (pc := 7) (v := 1) dX7_isSite_7 rfl ?_
  refine am_isub (pc := 8) dX7_isSite_8 ?_
  refine am_i2l (pc := 9) dX7_isSite_9 ?_
  refine am_callS (pc := 10) m7_in D 3 [.long ((v1).toInt64), .long 0, .long (((mem 30 2) - (1 : Int32)).toInt64)] (rest := []) ok7_in (by omega) rfl rfl l7_77 st7_in (Nat.le_of_ble_eq_true rfl) dX7_isSite_10 ?_
  refine am_Ci.use h (fun r_1 mem_1 h => ?_)
  show am_J m7_isSite (D + 1) 13 [.ref 30, .int v1] [.int r_1] mem_1 Q
  exact am_zreturn rfl h.1 dX7_isSite_13 h.2
set_option maxRecDepth 100000 in
set_option maxHeartbeats 4000000 in
theorem sg7_isCorner_0 {D : Nat} {mem : am_Mem} {Q : Option Value → am_Mem → Prop} {v0 : Int32} (h : am_Ci m7_in D [.long ((v0).toInt64), .long 0, .long 3] mem (fun r_1 mem_1 => (r_1 = 0 ∨ r_1 = 1) ∧ Q (some (.int r_1)) mem_1)) : am_J m7_isCorner (D + 1) 0 [.int v0] [] mem Q := by
  refine am_iload_n (pc := 0) 0 dX7_isCorner_0 rfl rfl ?_
  refine am_i2l (pc := 1) dX7_isCorner_1 ?_
  refine am_lconst (pc := 2) (v := 0) dX7_isCorner_2 rfl ?_
  refine am_ldc2 (pc := 3) k7_81 dX7_isCorner_3 ?_
  refine am_callS (pc := 6) m7_in D 3 [.long ((v0).toInt64), .long 0, .long 3] (rest := []) ok7_in (by omega) rfl rfl l7_77 st7_in (Nat.le_of_ble_eq_true rfl) dX7_isCorner_6 ?_
  refine am_Ci.use h (fun r_1 mem_1 h => ?_)
  show am_J m7_isCorner (D + 1) 9 [.int v0] [.int r_1] mem_1 Q
  exact am_zreturn rfl h.1 dX7_isCorner_9 h.2
set_option maxRecDepth 100000 in
set_option maxHeartbeats 4000000 in
theorem sg7_map_0 {D : Nat} {mem : am_Mem} {Q : Option Value → am_Mem → Prop} {v1 : Int32} {v2 : Int32} (h : am_Ci m7_in D [.long ((v1).toInt64), .long 10, .long 400] mem (fun r_1 mem_1 => (r_1 = 0 → Q (some (.int (-2))) mem_1) ∧ (¬ r_1 = 0 → am_Ci m7_in D [.long ((v2).toInt64), .long 10, .long 400] mem_1 (fun r_2 mem_2 => (¬ r_2 = 0 → Q (some (.int 1)) (am_set (am_set (am_set mem_2 30 0 v1) 30 1 v2) 30 2 0)) ∧ (r_2 = 0 → Q (some (.int (-2))) mem_2))))) : am_J m7_map (D + 1) 0 [.ref 30, .int v1, .int v2] [] mem Q := by
  refine am_iload_n (pc := 0) 1 dX7_map_0 rfl rfl ?_
  refine am_i2l (pc := 1) dX7_map_1 ?_
  refine am_ldc2 (pc := 2) k7_83 dX7_map_2 ?_
  refine am_ldc2 (pc := 5) k7_85 dX7_map_5 ?_
  refine am_callS (pc := 8) m7_in D 3 [.long ((v1).toInt64), .long 10, .long 400] (rest := []) ok7_in (by omega) rfl rfl l7_77 st7_in (Nat.le_of_ble_eq_true rfl) dX7_map_8 ?_
  refine am_Ci.use h (fun r_1 mem_1 h => ?_)
  show am_J m7_map (D + 1) 11 [.ref 30, .int v1, .int v2] [.int r_1] mem_1 Q
  refine am_if_eq (pc := 11) 28 dX7_map_11 (by decide) (fun c => ?_) (fun c => ?_)
  · replace h := h.1 c
    refine am_bipush (pc := 28) (v := -2) dX7_map_28 rfl ?_
    exact am_ireturn rfl dX7_map_30 h
  · replace h := h.2 c
    refine am_iload_n (pc := 14) 2 dX7_map_14 rfl rfl ?_
    refine am_i2l (pc := 15) dX7_map_15 ?_
    refine am_ldc2 (pc := 16) k7_83 dX7_map_16 ?_
    refine am_ldc2 (pc := 19) k7_85 dX7_map_19 ?_
    refine am_callS (pc := 22) m7_in D 3 [.long ((v2).toInt64), .long 10, .long 400] (rest := []) ok7_in (by omega) rfl rfl l7_77 st7_in (Nat.le_of_ble_eq_true rfl) dX7_map_22 ?_
    refine am_Ci.use h (fun r_2 mem_2 h => ?_)
    show am_J m7_map (D + 1) 25 [.ref 30, .int v1, .int v2] [.int r_2] mem_2 Q
    refine am_if_ne (pc := 25) 31 dX7_map_25 (by decide) (fun c => ?_) (fun c => ?_)
    · replace h := h.1 c
      refine am_aload_n (pc := 31) 0 dX7_map_31 rfl rfl ?_
      refine am_iload_n (pc := 32) 1 dX7_map_32 rfl rfl ?_
      refine am_putI (pc := 33) (k := 0) cl7 sh30 (by decide) (by decide) f7_7 rfl rfl rfl dX7_map_33 ?_
      refine am_aload_n (pc := 36) 0 dX7_map_36 rfl rfl ?_
      refine am_iload_n (pc := 37) 2 dX7_map_37 rfl rfl ?_
      refine am_putI (pc := 38) (k := 1) cl7 sh30 (by decide) (by decide) f7_13 rfl rfl rfl dX7_map_38 ?_
      refine am_aload_n (pc := 41) 0 dX7_map_41 rfl rfl ?_
      refine am_iconst (pc := 42) (v := 0) dX7_map_42 rfl ?_
      refine am_putI (pc := 43) (k := 2) cl7 sh30 (by decide) (by decide) f7_74 rfl rfl rfl dX7_map_43 ?_
      refine am_iconst (pc := 46) (v := 1) dX7_map_46 rfl ?_
      exact am_ireturn rfl dX7_map_47 h
    · replace h := h.2 c
      refine am_bipush (pc := 28) (v := -2) dX7_map_28 rfl ?_
      exact am_ireturn rfl dX7_map_30 h
set_option maxRecDepth 100000 in
set_option maxHeartbeats 4000000 in
theorem sg7_site_0 {D : Nat} {mem : am_Mem} {Q : Option Value → am_Mem → Prop} {v1 : Int32} {v2 : Int32} {v3 : Int32} {v4 : Int32} {v5 : Int32} (h : am_Ci m7_in D [.long ((v1).toInt64), .long 0, .long ((mem 30 0).toInt64)] mem (fun r_1 mem_1 => (r_1 = 0 → Q (some (.int (-2))) mem_1) ∧ (¬ r_1 = 0 → am_Ci m7_in D [.long ((v2).toInt64), .long 0, .long ((mem_1 30 1).toInt64)] mem_1 (fun r_2 mem_2 => (r_2 = 0 → Q (some (.int (-2))) mem_2) ∧ (¬ r_2 = 0 → am_Ci m7_in D [.long ((v3).toInt64), .long 1, .long 60] mem_2 (fun r_3 mem_3 => (r_3 = 0 → Q (some (.int (-2))) mem_3) ∧ (¬ r_3 = 0 → am_Ci m7_in D [.long ((v4).toInt64), .long 1, .long 20] mem_3 (fun r_4 mem_4 => (r_4 = 0 → Q (some (.int (-2))) mem_4) ∧ (¬ r_4 = 0 → am_Ci m7_in D [.long ((v5).toInt64), .long 1, .long 99] mem_4 (fun r_5 mem_5 => (¬ r_5 = 0 → (¬ (mem_5 30 2) = 8 → vp_in (mem_5 30 2) 8 ∧ (vp_in ((am_set mem_5 31 (mem_5 30 2).toNatClampNeg v1) 30 2) 8 ∧ (vp_in ((am_set (am_set mem_5 31 (mem_5 30 2).toNatClampNeg v1) 32 ((am_set mem_5 31 (mem_5 30 2).toNatClampNeg v1) 30 2).toNatClampNeg v2) 30 2) 8 ∧ (vp_in ((am_set (am_set (am_set mem_5 31 (mem_5 30 2).toNatClampNeg v1) 32 ((am_set mem_5 31 (mem_5 30 2).toNatClampNeg v1) 30 2).toNatClampNeg v2) 33 ((am_set (am_set mem_5 31 (mem_5 30 2).toNatClampNeg v1) 32 ((am_set mem_5 31 (mem_5 30 2).toNatClampNeg v1) 30 2).toNatClampNeg v2) 30 2).toNatClampNeg v3) 30 2) 8 ∧ (vp_in ((am_set (am_set (am_set (am_set mem_5 31 (mem_5 30 2).toNatClampNeg v1) 32 ((am_set mem_5 31 (mem_5 30 2).toNatClampNeg v1) 30 2).toNatClampNeg v2) 33 ((am_set (am_set mem_5 31 (mem_5 30 2).toNatClampNeg v1) 32 ((am_set mem_5 31 (mem_5 30 2).toNatClampNeg v1) 30 2).toNatClampNeg v2) 30 2).toNatClampNeg v3) 34 ((am_set (am_set (am_set mem_5 31 (mem_5 30 2).toNatClampNeg v1) 32 ((am_set mem_5 31 (mem_5 30 2).toNatClampNeg v1) 30 2).toNatClampNeg v2) 33 ((am_set (am_set mem_5 31 (mem_5 30 2).toNatClampNeg v1) 32 ((am_set mem_5 31 (mem_5 30 2).toNatClampNeg v1) 30 2).toNatClampNeg v2) 30 2).toNatClampNeg v3) 30 2).toNatClampNeg v4) 30 2) 8 ∧ (vp_in ((am_set (am_set (am_set (am_set (am_set mem_5 31 (mem_5 30 2).toNatClampNeg v1) 32 ((am_set mem_5 31 (mem_5 30 2).toNatClampNeg v1) 30 2).toNatClampNeg v2) 33 ((am_set (am_set mem_5 31 (mem_5 30 2).toNatClampNeg v1) 32 ((am_set mem_5 31 (mem_5 30 2).toNatClampNeg v1) 30 2).toNatClampNeg v2) 30 2).toNatClampNeg v3) 34 ((am_set (am_set (am_set mem_5 31 (mem_5 30 2).toNatClampNeg v1) 32 ((am_set mem_5 31 (mem_5 30 2).toNatClampNeg v1) 30 2).toNatClampNeg v2) 33 ((am_set (am_set mem_5 31 (mem_5 30 2).toNatClampNeg v1) 32 ((am_set mem_5 31 (mem_5 30 2).toNatClampNeg v1) 30 2).toNatClampNeg v2) 30 2).toNatClampNeg v3) 30 2).toNatClampNeg v4) 35 ((am_set (am_set (am_set (am_set mem_5 31 (mem_5 30 2).toNatClampNeg v1) 32 ((am_set mem_5 31 (mem_5 30 2).toNatClampNeg v1) 30 2).toNatClampNeg v2) 33 ((am_set (am_set mem_5 31 (mem_5 30 2).toNatClampNeg v1) 32 ((am_set mem_5 31 (mem_5 30 2).toNatClampNeg v1) 30 2).toNatClampNeg v2) 30 2).toNatClampNeg v3) 34 ((am_set (am_set (am_set mem_5 31 (mem_5 30 2).toNatClampNeg v1) 32 ((am_set mem_5 31 (mem_5 30 2).toNatClampNeg v1) 30 2).toNatClampNeg v2) 33 ((am_set (am_set mem_5 31 (mem_5 30 2).toNatClampNeg v1) 32 ((am_set mem_5 31 (mem_5 30 2).toNatClampNeg v1) 30 2).toNatClampNeg v2) 30 2).toNatClampNeg v3) 30 2).toNatClampNeg v4) 30 2).toNatClampNeg v5) 30 2) 8 ∧ (vp_in ((am_set (am_set (am_set (am_set (am_set (am_set mem_5 31 (mem_5 30 2).toNatClampNeg v1) 32 ((am_set mem_5 31 (mem_5 30 2).toNatClampNeg v1) 30 2).toNatClampNeg v2) 33 ((am_set (am_set mem_5 31 (mem_5 30 2).toNatClampNeg v1) 32 ((am_set mem_5 31 (mem_5 30 2).toNatClampNeg v1) 30 2).toNatClampNeg v2) 30 2).toNatClampNeg v3) 34 ((am_set (am_set (am_set mem_5 31 (mem_5 30 2).toNatClampNeg v1) 32 ((am_set mem_5 31 (mem_5 30 2).toNatClampNeg v1) 30 2).toNatClampNeg v2) 33 ((am_set (am_set mem_5 31 (mem_5 30 2).toNatClampNeg v1) 32 ((am_set mem_5 31 (mem_5 30 2).toNatClampNeg v1) 30 2).toNatClampNeg v2) 30 2).toNatClampNeg v3) 30 2).toNatClampNeg v4) 35 ((am_set (am_set (am_set (am_set mem_5 31 (mem_5 30 2).toNatClampNeg v1) 32 ((am_set mem_5 31 (mem_5 30 2).toNatClampNeg v1) 30 2).toNatClampNeg v2) 33 ((am_set (am_set mem_5 31 (mem_5 30 2).toNatClampNeg v1) 32 ((am_set mem_5 31 (mem_5 30 2).toNatClampNeg v1) 30 2).toNatClampNeg v2) 30 2).toNatClampNeg v3) 34 ((am_set (am_set (am_set mem_5 31 (mem_5 30 2).toNatClampNeg v1) 32 ((am_set mem_5 31 (mem_5 30 2).toNatClampNeg v1) 30 2).toNatClampNeg v2) 33 ((am_set (am_set mem_5 31 (mem_5 30 2).toNatClampNeg v1) 32 ((am_set mem_5 31 (mem_5 30 2).toNatClampNeg v1) 30 2).toNatClampNeg v2) 30 2).toNatClampNeg v3) 30 2).toNatClampNeg v4) 30 2).toNatClampNeg v5) 36 ((am_set (am_set (am_set (am_set (am_set mem_5 31 (mem_5 30 2).toNatClampNeg v1) 32 ((am_set mem_5 31 (mem_5 30 2).toNatClampNeg v1) 30 2).toNatClampNeg v2) 33 ((am_set (am_set mem_5 31 (mem_5 30 2).toNatClampNeg v1) 32 ((am_set mem_5 31 (mem_5 30 2).toNatClampNeg v1) 30 2).toNatClampNeg v2) 30 2).toNatClampNeg v3) 34 ((am_set (am_set (am_set mem_5 31 (mem_5 30 2).toNatClampNeg v1) 32 ((am_set mem_5 31 (mem_5 30 2).toNatClampNeg v1) 30 2).toNatClampNeg v2) 33 ((am_set (am_set mem_5 31 (mem_5 30 2).toNatClampNeg v1) 32 ((am_set mem_5 31 (mem_5 30 2).toNatClampNeg v1) 30 2).toNatClampNeg v2) 30 2).toNatClampNeg v3) 30 2).toNatClampNeg v4) 35 ((am_set (am_set (am_set (am_set mem_5 31 (mem_5 30 2).toNatClampNeg v1) 32 ((am_set mem_5 31 (mem_5 30 2).toNatClampNeg v1) 30 2).toNatClampNeg v2) 33 ((am_set (am_set mem_5 31 (mem_5 30 2).toNatClampNeg v1) 32 ((am_set mem_5 31 (mem_5 30 2).toNatClampNeg v1) 30 2).toNatClampNeg v2) 30 2).toNatClampNeg v3) 34 ((am_set (am_set (am_set mem_5 31 (mem_5 30 2).toNatClampNeg v1) 32 ((am_set mem_5 31 (mem_5 30 2).toNatClampNeg v1) 30 2).toNatClampNeg v2) 33 ((am_set (am_set mem_5 31 (mem_5 30 2).toNatClampNeg v1) 32 ((am_set mem_5 31 (mem_5 30 2).toNatClampNeg v1) 30 2).toNatClampNeg v2) 30 2).toNatClampNeg v3) 30 2).toNatClampNeg v4) 30 2).toNatClampNeg v5) 30 2).toNatClampNeg 15) 30 2) 8 ∧ (Q (some (.int (((am_set (am_set (am_set (am_set (am_set (am_set (am_set (am_set mem_5 31 (mem_5 30 2).toNatClampNeg v1) 32 ((am_set mem_5 31 (mem_5 30 2).toNatClampNeg v1) 30 2).toNatClampNeg v2) 33 ((am_set (am_set mem_5 31 (mem_5 30 2).toNatClampNeg v1) 32 ((am_set mem_5 31 (mem_5 30 2).toNatClampNeg v1) 30 2).toNatClampNeg v2) 30 2).toNatClampNeg v3) 34 ((am_set (am_set (am_set mem_5 31 (mem_5 30 2).toNatClampNeg v1) 32 ((am_set mem_5 31 (mem_5 30 2).toNatClampNeg v1) 30 2).toNatClampNeg v2) 33 ((am_set (am_set mem_5 31 (mem_5 30 2).toNatClampNeg v1) 32 ((am_set mem_5 31 (mem_5 30 2).toNatClampNeg v1) 30 2).toNatClampNeg v2) 30 2).toNatClampNeg v3) 30 2).toNatClampNeg v4) 35 ((am_set (am_set (am_set (am_set mem_5 31 (mem_5 30 2).toNatClampNeg v1) 32 ((am_set mem_5 31 (mem_5 30 2).toNatClampNeg v1) 30 2).toNatClampNeg v2) 33 ((am_set (am_set mem_5 31 (mem_5 30 2).toNatClampNeg v1) 32 ((am_set mem_5 31 (mem_5 30 2).toNatClampNeg v1) 30 2).toNatClampNeg v2) 30 2).toNatClampNeg v3) 34 ((am_set (am_set (am_set mem_5 31 (mem_5 30 2).toNatClampNeg v1) 32 ((am_set mem_5 31 (mem_5 30 2).toNatClampNeg v1) 30 2).toNatClampNeg v2) 33 ((am_set (am_set mem_5 31 (mem_5 30 2).toNatClampNeg v1) 32 ((am_set mem_5 31 (mem_5 30 2).toNatClampNeg v1) 30 2).toNatClampNeg v2) 30 2).toNatClampNeg v3) 30 2).toNatClampNeg v4) 30 2).toNatClampNeg v5) 36 ((am_set (am_set (am_set (am_set (am_set mem_5 31 (mem_5 30 2).toNatClampNeg v1) 32 ((am_set mem_5 31 (mem_5 30 2).toNatClampNeg v1) 30 2).toNatClampNeg v2) 33 ((am_set (am_set mem_5 31 (mem_5 30 2).toNatClampNeg v1) 32 ((am_set mem_5 31 (mem_5 30 2).toNatClampNeg v1) 30 2).toNatClampNeg v2) 30 2).toNatClampNeg v3) 34 ((am_set (am_set (am_set mem_5 31 (mem_5 30 2).toNatClampNeg v1) 32 ((am_set mem_5 31 (mem_5 30 2).toNatClampNeg v1) 30 2).toNatClampNeg v2) 33 ((am_set (am_set mem_5 31 (mem_5 30 2).toNatClampNeg v1) 32 ((am_set mem_5 31 (mem_5 30 2).toNatClampNeg v1) 30 2).toNatClampNeg v2) 30 2).toNatClampNeg v3) 30 2).toNatClampNeg v4) 35 ((am_set (am_set (am_set (am_set mem_5 31 (mem_5 30 2).toNatClampNeg v1) 32 ((am_set mem_5 31 (mem_5 30 2).toNatClampNeg v1) 30 2).toNatClampNeg v2) 33 ((am_set (am_set mem_5 31 (mem_5 30 2).toNatClampNeg v1) 32 ((am_set mem_5 31 (mem_5 30 2).toNatClampNeg v1) 30 2).toNatClampNeg v2) 30 2).toNatClampNeg v3) 34 ((am_set (am_set (am_set mem_5 31 (mem_5 30 2).toNatClampNeg v1) 32 ((am_set mem_5 31 (mem_5 30 2).toNatClampNeg v1) 30 2).toNatClampNeg v2) 33 ((am_set (am_set mem_5 31 (mem_5 30 2).toNatClampNeg v1) 32 ((am_set mem_5 31 (mem_5 30 2).toNatClampNeg v1) 30 2).toNatClampNeg v2) 30 2).toNatClampNeg v3) 30 2).toNatClampNeg v4) 30 2).toNatClampNeg v5) 30 2).toNatClampNeg 15) 37 ((am_set (am_set (am_set (am_set (am_set (am_set mem_5 31 (mem_5 30 2).toNatClampNeg v1) 32 ((am_set mem_5 31 (mem_5 30 2).toNatClampNeg v1) 30 2).toNatClampNeg v2) 33 ((am_set (am_set mem_5 31 (mem_5 30 2).toNatClampNeg v1) 32 ((am_set mem_5 31 (mem_5 30 2).toNatClampNeg v1) 30 2).toNatClampNeg v2) 30 2).toNatClampNeg v3) 34 ((am_set (am_set (am_set mem_5 31 (mem_5 30 2).toNatClampNeg v1) 32 ((am_set mem_5 31 (mem_5 30 2).toNatClampNeg v1) 30 2).toNatClampNeg v2) 33 ((am_set (am_set mem_5 31 (mem_5 30 2).toNatClampNeg v1) 32 ((am_set mem_5 31 (mem_5 30 2).toNatClampNeg v1) 30 2).toNatClampNeg v2) 30 2).toNatClampNeg v3) 30 2).toNatClampNeg v4) 35 ((am_set (am_set (am_set (am_set mem_5 31 (mem_5 30 2).toNatClampNeg v1) 32 ((am_set mem_5 31 (mem_5 30 2).toNatClampNeg v1) 30 2).toNatClampNeg v2) 33 ((am_set (am_set mem_5 31 (mem_5 30 2).toNatClampNeg v1) 32 ((am_set mem_5 31 (mem_5 30 2).toNatClampNeg v1) 30 2).toNatClampNeg v2) 30 2).toNatClampNeg v3) 34 ((am_set (am_set (am_set mem_5 31 (mem_5 30 2).toNatClampNeg v1) 32 ((am_set mem_5 31 (mem_5 30 2).toNatClampNeg v1) 30 2).toNatClampNeg v2) 33 ((am_set (am_set mem_5 31 (mem_5 30 2).toNatClampNeg v1) 32 ((am_set mem_5 31 (mem_5 30 2).toNatClampNeg v1) 30 2).toNatClampNeg v2) 30 2).toNatClampNeg v3) 30 2).toNatClampNeg v4) 30 2).toNatClampNeg v5) 36 ((am_set (am_set (am_set (am_set (am_set mem_5 31 (mem_5 30 2).toNatClampNeg v1) 32 ((am_set mem_5 31 (mem_5 30 2).toNatClampNeg v1) 30 2).toNatClampNeg v2) 33 ((am_set (am_set mem_5 31 (mem_5 30 2).toNatClampNeg v1) 32 ((am_set mem_5 31 (mem_5 30 2).toNatClampNeg v1) 30 2).toNatClampNeg v2) 30 2).toNatClampNeg v3) 34 ((am_set (am_set (am_set mem_5 31 (mem_5 30 2).toNatClampNeg v1) 32 ((am_set mem_5 31 (mem_5 30 2).toNatClampNeg v1) 30 2).toNatClampNeg v2) 33 ((am_set (am_set mem_5 31 (mem_5 30 2).toNatClampNeg v1) 32 ((am_set mem_5 31 (mem_5 30 2).toNatClampNeg v1) 30 2).toNatClampNeg v2) 30 2).toNatClampNeg v3) 30 2).toNatClampNeg v4) 35 ((am_set (am_set (am_set (am_set mem_5 31 (mem_5 30 2).toNatClampNeg v1) 32 ((am_set mem_5 31 (mem_5 30 2).toNatClampNeg v1) 30 2).toNatClampNeg v2) 33 ((am_set (am_set mem_5 31 (mem_5 30 2).toNatClampNeg v1) 32 ((am_set mem_5 31 (mem_5 30 2).toNatClampNeg v1) 30 2).toNatClampNeg v2) 30 2).toNatClampNeg v3) 34 ((am_set (am_set (am_set mem_5 31 (mem_5 30 2).toNatClampNeg v1) 32 ((am_set mem_5 31 (mem_5 30 2).toNatClampNeg v1) 30 2).toNatClampNeg v2) 33 ((am_set (am_set mem_5 31 (mem_5 30 2).toNatClampNeg v1) 32 ((am_set mem_5 31 (mem_5 30 2).toNatClampNeg v1) 30 2).toNatClampNeg v2) 30 2).toNatClampNeg v3) 30 2).toNatClampNeg v4) 30 2).toNatClampNeg v5) 30 2).toNatClampNeg 15) 30 2).toNatClampNeg (-9)) 30 2 (((am_set (am_set (am_set (am_set (am_set (am_set (am_set mem_5 31 (mem_5 30 2).toNatClampNeg v1) 32 ((am_set mem_5 31 (mem_5 30 2).toNatClampNeg v1) 30 2).toNatClampNeg v2) 33 ((am_set (am_set mem_5 31 (mem_5 30 2).toNatClampNeg v1) 32 ((am_set mem_5 31 (mem_5 30 2).toNatClampNeg v1) 30 2).toNatClampNeg v2) 30 2).toNatClampNeg v3) 34 ((am_set (am_set (am_set mem_5 31 (mem_5 30 2).toNatClampNeg v1) 32 ((am_set mem_5 31 (mem_5 30 2).toNatClampNeg v1) 30 2).toNatClampNeg v2) 33 ((am_set (am_set mem_5 31 (mem_5 30 2).toNatClampNeg v1) 32 ((am_set mem_5 31 (mem_5 30 2).toNatClampNeg v1) 30 2).toNatClampNeg v2) 30 2).toNatClampNeg v3) 30 2).toNatClampNeg v4) 35 ((am_set (am_set (am_set (am_set mem_5 31 (mem_5 30 2).toNatClampNeg v1) 32 ((am_set mem_5 31 (mem_5 30 2).toNatClampNeg v1) 30 2).toNatClampNeg v2) 33 ((am_set (am_set mem_5 31 (mem_5 30 2).toNatClampNeg v1) 32 ((am_set mem_5 31 (mem_5 30 2).toNatClampNeg v1) 30 2).toNatClampNeg v2) 30 2).toNatClampNeg v3) 34 ((am_set (am_set (am_set mem_5 31 (mem_5 30 2).toNatClampNeg v1) 32 ((am_set mem_5 31 (mem_5 30 2).toNatClampNeg v1) 30 2).toNatClampNeg v2) 33 ((am_set (am_set mem_5 31 (mem_5 30 2).toNatClampNeg v1) 32 ((am_set mem_5 31 (mem_5 30 2).toNatClampNeg v1) 30 2).toNatClampNeg v2) 30 2).toNatClampNeg v3) 30 2).toNatClampNeg v4) 30 2).toNatClampNeg v5) 36 ((am_set (am_set (am_set (am_set (am_set mem_5 31 (mem_5 30 2).toNatClampNeg v1) 32 ((am_set mem_5 31 (mem_5 30 2).toNatClampNeg v1) 30 2).toNatClampNeg v2) 33 ((am_set (am_set mem_5 31 (mem_5 30 2).toNatClampNeg v1) 32 ((am_set mem_5 31 (mem_5 30 2).toNatClampNeg v1) 30 2).toNatClampNeg v2) 30 2).toNatClampNeg v3) 34 ((am_set (am_set (am_set mem_5 31 (mem_5 30 2).toNatClampNeg v1) 32 ((am_set mem_5 31 (mem_5 30 2).toNatClampNeg v1) 30 2).toNatClampNeg v2) 33 ((am_set (am_set mem_5 31 (mem_5 30 2).toNatClampNeg v1) 32 ((am_set mem_5 31 (mem_5 30 2).toNatClampNeg v1) 30 2).toNatClampNeg v2) 30 2).toNatClampNeg v3) 30 2).toNatClampNeg v4) 35 ((am_set (am_set (am_set (am_set mem_5 31 (mem_5 30 2).toNatClampNeg v1) 32 ((am_set mem_5 31 (mem_5 30 2).toNatClampNeg v1) 30 2).toNatClampNeg v2) 33 ((am_set (am_set mem_5 31 (mem_5 30 2).toNatClampNeg v1) 32 ((am_set mem_5 31 (mem_5 30 2).toNatClampNeg v1) 30 2).toNatClampNeg v2) 30 2).toNatClampNeg v3) 34 ((am_set (am_set (am_set mem_5 31 (mem_5 30 2).toNatClampNeg v1) 32 ((am_set mem_5 31 (mem_5 30 2).toNatClampNeg v1) 30 2).toNatClampNeg v2) 33 ((am_set (am_set mem_5 31 (mem_5 30 2).toNatClampNeg v1) 32 ((am_set mem_5 31 (mem_5 30 2).toNatClampNeg v1) 30 2).toNatClampNeg v2) 30 2).toNatClampNeg v3) 30 2).toNatClampNeg v4) 30 2).toNatClampNeg v5) 30 2).toNatClampNeg 15) 37 ((am_set (am_set (am_set (am_set (am_set (am_set mem_5 31 (mem_5 30 2).toNatClampNeg v1) 32 ((am_set mem_5 31 (mem_5 30 2).toNatClampNeg v1) 30 2).toNatClampNeg v2) 33 ((am_set (am_set mem_5 31 (mem_5 30 2).toNatClampNeg v1) 32 ((am_set mem_5 31 (mem_5 30 2).toNatClampNeg v1) 30 2).toNatClampNeg v2) 30 2).toNatClampNeg v3) 34 ((am_set (am_set (am_set mem_5 31 (mem_5 30 2).toNatClampNeg v1) 32 ((am_set mem_5 31 (mem_5 30 2).toNatClampNeg v1) 30 2).toNatClampNeg v2) 33 ((am_set (am_set mem_5 31 (mem_5 30 2).toNatClampNeg v1) 32 ((am_set mem_5 31 (mem_5 30 2).toNatClampNeg v1) 30 2).toNatClampNeg v2) 30 2).toNatClampNeg v3) 30 2).toNatClampNeg v4) 35 ((am_set (am_set (am_set (am_set mem_5 31 (mem_5 30 2).toNatClampNeg v1) 32 ((am_set mem_5 31 (mem_5 30 2).toNatClampNeg v1) 30 2).toNatClampNeg v2) 33 ((am_set (am_set mem_5 31 (mem_5 30 2).toNatClampNeg v1) 32 ((am_set mem_5 31 (mem_5 30 2).toNatClampNeg v1) 30 2).toNatClampNeg v2) 30 2).toNatClampNeg v3) 34 ((am_set (am_set (am_set mem_5 31 (mem_5 30 2).toNatClampNeg v1) 32 ((am_set mem_5 31 (mem_5 30 2).toNatClampNeg v1) 30 2).toNatClampNeg v2) 33 ((am_set (am_set mem_5 31 (mem_5 30 2).toNatClampNeg v1) 32 ((am_set mem_5 31 (mem_5 30 2).toNatClampNeg v1) 30 2).toNatClampNeg v2) 30 2).toNatClampNeg v3) 30 2).toNatClampNeg v4) 30 2).toNatClampNeg v5) 36 ((am_set (am_set (am_set (am_set (am_set mem_5 31 (mem_5 30 2).toNatClampNeg v1) 32 ((am_set mem_5 31 (mem_5 30 2).toNatClampNeg v1) 30 2).toNatClampNeg v2) 33 ((am_set (am_set mem_5 31 (mem_5 30 2).toNatClampNeg v1) 32 ((am_set mem_5 31 (mem_5 30 2).toNatClampNeg v1) 30 2).toNatClampNeg v2) 30 2).toNatClampNeg v3) 34 ((am_set (am_set (am_set mem_5 31 (mem_5 30 2).toNatClampNeg v1) 32 ((am_set mem_5 31 (mem_5 30 2).toNatClampNeg v1) 30 2).toNatClampNeg v2) 33 ((am_set (am_set mem_5 31 (mem_5 30 2).toNatClampNeg v1) 32 ((am_set mem_5 31 (mem_5 30 2).toNatClampNeg v1) 30 2).toNatClampNeg v2) 30 2).toNatClampNeg v3) 30 2).toNatClampNeg v4) 35 ((am_set (am_set (am_set (am_set mem_5 31 (mem_5 30 2).toNatClampNeg v1) 32 ((am_set mem_5 31 (mem_5 30 2).toNatClampNeg v1) 30 2).toNatClampNeg v2) 33 ((am_set (am_set mem_5 31 (mem_5 30 2).toNatClampNeg v1) 32 ((am_set mem_5 31 (mem_5 30 2).toNatClampNeg v1) 30 2).toNatClampNeg v2) 30 2).toNatClampNeg v3) 34 ((am_set (am_set (am_set mem_5 31 (mem_5 30 2).toNatClampNeg v1) 32 ((am_set mem_5 31 (mem_5 30 2).toNatClampNeg v1) 30 2).toNatClampNeg v2) 33 ((am_set (am_set mem_5 31 (mem_5 30 2).toNatClampNeg v1) 32 ((am_set mem_5 31 (mem_5 30 2).toNatClampNeg v1) 30 2).toNatClampNeg v2) 30 2).toNatClampNeg v3) 30 2).toNatClampNeg v4) 30 2).toNatClampNeg v5) 30 2).toNatClampNeg 15) 30 2).toNatClampNeg (-9)) 30 2) + (1 : Int32))) 30 2) - (1 : Int32)))) (am_set (am_set (am_set (am_set (am_set (am_set (am_set (am_set mem_5 31 (mem_5 30 2).toNatClampNeg v1) 32 ((am_set mem_5 31 (mem_5 30 2).toNatClampNeg v1) 30 2).toNatClampNeg v2) 33 ((am_set (am_set mem_5 31 (mem_5 30 2).toNatClampNeg v1) 32 ((am_set mem_5 31 (mem_5 30 2).toNatClampNeg v1) 30 2).toNatClampNeg v2) 30 2).toNatClampNeg v3) 34 ((am_set (am_set (am_set mem_5 31 (mem_5 30 2).toNatClampNeg v1) 32 ((am_set mem_5 31 (mem_5 30 2).toNatClampNeg v1) 30 2).toNatClampNeg v2) 33 ((am_set (am_set mem_5 31 (mem_5 30 2).toNatClampNeg v1) 32 ((am_set mem_5 31 (mem_5 30 2).toNatClampNeg v1) 30 2).toNatClampNeg v2) 30 2).toNatClampNeg v3) 30 2).toNatClampNeg v4) 35 ((am_set (am_set (am_set (am_set mem_5 31 (mem_5 30 2).toNatClampNeg v1) 32 ((am_set mem_5 31 (mem_5 30 2).toNatClampNeg v1) 30 2).toNatClampNeg v2) 33 ((am_set (am_set mem_5 31 (mem_5 30 2).toNatClampNeg v1) 32 ((am_set mem_5 31 (mem_5 30 2).toNatClampNeg v1) 30 2).toNatClampNeg v2) 30 2).toNatClampNeg v3) 34 ((am_set (am_set (am_set mem_5 31 (mem_5 30 2).toNatClampNeg v1) 32 ((am_set mem_5 31 (mem_5 30 2).toNatClampNeg v1) 30 2).toNatClampNeg v2) 33 ((am_set (am_set mem_5 31 (mem_5 30 2).toNatClampNeg v1) 32 ((am_set mem_5 31 (mem_5 30 2).toNatClampNeg v1) 30 2).toNatClampNeg v2) 30 2).toNatClampNeg v3) 30 2).toNatClampNeg v4) 30 2).toNatClampNeg v5) 36 ((am_set (am_set (am_set (am_set (am_set mem_5 31 (mem_5 30 2).toNatClampNeg v1) 32 ((am_set mem_5 31 (mem_5 30 2).toNatClampNeg v1) 30 2).toNatClampNeg v2) 33 ((am_set (am_set mem_5 31 (mem_5 30 2).toNatClampNeg v1) 32 ((am_set mem_5 31 (mem_5 30 2).toNatClampNeg v1) 30 2).toNatClampNeg v2) 30 2).toNatClampNeg v3) 34 ((am_set (am_set (am_set mem_5 31 (mem_5 30 2).toNatClampNeg v1) 32 ((am_set mem_5 31 (mem_5 30 2).toNatClampNeg v1) 30 2).toNatClampNeg v2) 33 ((am_set (am_set mem_5 31 (mem_5 30 2).toNatClampNeg v1) 32 ((am_set mem_5 31 (mem_5 30 2).toNatClampNeg v1) 30 2).toNatClampNeg v2) 30 2).toNatClampNeg v3) 30 2).toNatClampNeg v4) 35 ((am_set (am_set (am_set (am_set mem_5 31 (mem_5 30 2).toNatClampNeg v1) 32 ((am_set mem_5 31 (mem_5 30 2).toNatClampNeg v1) 30 2).toNatClampNeg v2) 33 ((am_set (am_set mem_5 31 (mem_5 30 2).toNatClampNeg v1) 32 ((am_set mem_5 31 (mem_5 30 2).toNatClampNeg v1) 30 2).toNatClampNeg v2) 30 2).toNatClampNeg v3) 34 ((am_set (am_set (am_set mem_5 31 (mem_5 30 2).toNatClampNeg v1) 32 ((am_set mem_5 31 (mem_5 30 2).toNatClampNeg v1) 30 2).toNatClampNeg v2) 33 ((am_set (am_set mem_5 31 (mem_5 30 2).toNatClampNeg v1) 32 ((am_set mem_5 31 (mem_5 30 2).toNatClampNeg v1) 30 2).toNatClampNeg v2) 30 2).toNatClampNeg v3) 30 2).toNatClampNeg v4) 30 2).toNatClampNeg v5) 30 2).toNatClampNeg 15) 37 ((am_set (am_set (am_set (am_set (am_set (am_set mem_5 31 (mem_5 30 2).toNatClampNeg v1) 32 ((am_set mem_5 31 (mem_5 30 2).toNatClampNeg v1) 30 2).toNatClampNeg v2) 33 ((am_set (am_set mem_5 31 (mem_5 30 2).toNatClampNeg v1) 32 ((am_set mem_5 31 (mem_5 30 2).toNatClampNeg v1) 30 2).toNatClampNeg v2) 30 2).toNatClampNeg v3) 34 ((am_set (am_set (am_set mem_5 31 (mem_5 30 2).toNatClampNeg v1) 32 ((am_set mem_5 31 (mem_5 30 2).toNatClampNeg v1) 30 2).toNatClampNeg v2) 33 ((am_set (am_set mem_5 31 (mem_5 30 2).toNatClampNeg v1) 32 ((am_set mem_5 31 (mem_5 30 2).toNatClampNeg v1) 30 2).toNatClampNeg v2) 30 2).toNatClampNeg v3) 30 2).toNatClampNeg v4) 35 ((am_set (am_set (am_set (am_set mem_5 31 (mem_5 30 2).toNatClampNeg v1) 32 ((am_set mem_5 31 (mem_5 30 2).toNatClampNeg v1) 30 2).toNatClampNeg v2) 33 ((am_set (am_set mem_5 31 (mem_5 30 2).toNatClampNeg v1) 32 ((am_set mem_5 31 (mem_5 30 2).toNatClampNeg v1) 30 2).toNatClampNeg v2) 30 2).toNatClampNeg v3) 34 ((am_set (am_set (am_set mem_5 31 (mem_5 30 2).toNatClampNeg v1) 32 ((am_set mem_5 31 (mem_5 30 2).toNatClampNeg v1) 30 2).toNatClampNeg v2) 33 ((am_set (am_set mem_5 31 (mem_5 30 2).toNatClampNeg v1) 32 ((am_set mem_5 31 (mem_5 30 2).toNatClampNeg v1) 30 2).toNatClampNeg v2) 30 2).toNatClampNeg v3) 30 2).toNatClampNeg v4) 30 2).toNatClampNeg v5) 36 ((am_set (am_set (am_set (am_set (am_set mem_5 31 (mem_5 30 2).toNatClampNeg v1) 32 ((am_set mem_5 31 (mem_5 30 2).toNatClampNeg v1) 30 2).toNatClampNeg v2) 33 ((am_set (am_set mem_5 31 (mem_5 30 2).toNatClampNeg v1) 32 ((am_set mem_5 31 (mem_5 30 2).toNatClampNeg v1) 30 2).toNatClampNeg v2) 30 2).toNatClampNeg v3) 34 ((am_set (am_set (am_set mem_5 31 (mem_5 30 2).toNatClampNeg v1) 32 ((am_set mem_5 31 (mem_5 30 2).toNatClampNeg v1) 30 2).toNatClampNeg v2) 33 ((am_set (am_set mem_5 31 (mem_5 30 2).toNatClampNeg v1) 32 ((am_set mem_5 31 (mem_5 30 2).toNatClampNeg v1) 30 2).toNatClampNeg v2) 30 2).toNatClampNeg v3) 30 2).toNatClampNeg v4) 35 ((am_set (am_set (am_set (am_set mem_5 31 (mem_5 30 2).toNatClampNeg v1) 32 ((am_set mem_5 31 (mem_5 30 2).toNatClampNeg v1) 30 2).toNatClampNeg v2) 33 ((am_set (am_set mem_5 31 (mem_5 30 2).toNatClampNeg v1) 32 ((am_set mem_5 31 (mem_5 30 2).toNatClampNeg v1) 30 2).toNatClampNeg v2) 30 2).toNatClampNeg v3) 34 ((am_set (am_set (am_set mem_5 31 (mem_5 30 2).toNatClampNeg v1) 32 ((am_set mem_5 31 (mem_5 30 2).toNatClampNeg v1) 30 2).toNatClampNeg v2) 33 ((am_set (am_set mem_5 31 (mem_5 30 2).toNatClampNeg v1) 32 ((am_set mem_5 31 (mem_5 30 2).toNatClampNeg v1) 30 2).toNatClampNeg v2) 30 2).toNatClampNeg v3) 30 2).toNatClampNeg v4) 30 2).toNatClampNeg v5) 30 2).toNatClampNeg 15) 30 2).toNatClampNeg (-9)) 30 2 (((am_set (am_set (am_set (am_set (am_set (am_set (am_set mem_5 31 (mem_5 30 2).toNatClampNeg v1) 32 ((am_set mem_5 31 (mem_5 30 2).toNatClampNeg v1) 30 2).toNatClampNeg v2) 33 ((am_set (am_set mem_5 31 (mem_5 30 2).toNatClampNeg v1) 32 ((am_set mem_5 31 (mem_5 30 2).toNatClampNeg v1) 30 2).toNatClampNeg v2) 30 2).toNatClampNeg v3) 34 ((am_set (am_set (am_set mem_5 31 (mem_5 30 2).toNatClampNeg v1) 32 ((am_set mem_5 31 (mem_5 30 2).toNatClampNeg v1) 30 2).toNatClampNeg v2) 33 ((am_set (am_set mem_5 31 (mem_5 30 2).toNatClampNeg v1) 32 ((am_set mem_5 31 (mem_5 30 2).toNatClampNeg v1) 30 2).toNatClampNeg v2) 30 2).toNatClampNeg v3) 30 2).toNatClampNeg v4) 35 ((am_set (am_set (am_set (am_set mem_5 31 (mem_5 30 2).toNatClampNeg v1) 32 ((am_set mem_5 31 (mem_5 30 2).toNatClampNeg v1) 30 2).toNatClampNeg v2) 33 ((am_set (am_set mem_5 31 (mem_5 30 2).toNatClampNeg v1) 32 ((am_set mem_5 31 (mem_5 30 2).toNatClampNeg v1) 30 2).toNatClampNeg v2) 30 2).toNatClampNeg v3) 34 ((am_set (am_set (am_set mem_5 31 (mem_5 30 2).toNatClampNeg v1) 32 ((am_set mem_5 31 (mem_5 30 2).toNatClampNeg v1) 30 2).toNatClampNeg v2) 33 ((am_set (am_set mem_5 31 (mem_5 30 2).toNatClampNeg v1) 32 ((am_set mem_5 31 (mem_5 30 2).toNatClampNeg v1) 30 2).toNatClampNeg v2) 30 2).toNatClampNeg v3) 30 2).toNatClampNeg v4) 30 2).toNatClampNeg v5) 36 ((am_set (am_set (am_set (am_set (am_set mem_5 31 (mem_5 30 2).toNatClampNeg v1) 32 ((am_set mem_5 31 (mem_5 30 2).toNatClampNeg v1) 30 2).toNatClampNeg v2) 33 ((am_set (am_set mem_5 31 (mem_5 30 2).toNatClampNeg v1) 32 ((am_set mem_5 31 (mem_5 30 2).toNatClampNeg v1) 30 2).toNatClampNeg v2) 30 2).toNatClampNeg v3) 34 ((am_set (am_set (am_set mem_5 31 (mem_5 30 2).toNatClampNeg v1) 32 ((am_set mem_5 31 (mem_5 30 2).toNatClampNeg v1) 30 2).toNatClampNeg v2) 33 ((am_set (am_set mem_5 31 (mem_5 30 2).toNatClampNeg v1) 32 ((am_set mem_5 31 (mem_5 30 2).toNatClampNeg v1) 30 2).toNatClampNeg v2) 30 2).toNatClampNeg v3) 30 2).toNatClampNeg v4) 35 ((am_set (am_set (am_set (am_set mem_5 31 (mem_5 30 2).toNatClampNeg v1) 32 ((am_set mem_5 31 (mem_5 30 2).toNatClampNeg v1) 30 2).toNatClampNeg v2) 33 ((am_set (am_set mem_5 31 (mem_5 30 2).toNatClampNeg v1) 32 ((am_set mem_5 31 (mem_5 30 2).toNatClampNeg v1) 30 2).toNatClampNeg v2) 30 2).toNatClampNeg v3) 34 ((am_set (am_set (am_set mem_5 31 (mem_5 30 2).toNatClampNeg v1) 32 ((am_set mem_5 31 (mem_5 30 2).toNatClampNeg v1) 30 2).toNatClampNeg v2) 33 ((am_set (am_set mem_5 31 (mem_5 30 2).toNatClampNeg v1) 32 ((am_set mem_5 31 (mem_5 30 2).toNatClampNeg v1) 30 2).toNatClampNeg v2) 30 2).toNatClampNeg v3) 30 2).toNatClampNeg v4) 30 2).toNatClampNeg v5) 30 2).toNatClampNeg 15) 37 ((am_set (am_set (am_set (am_set (am_set (am_set mem_5 31 (mem_5 30 2).toNatClampNeg v1) 32 ((am_set mem_5 31 (mem_5 30 2).toNatClampNeg v1) 30 2).toNatClampNeg v2) 33 ((am_set (am_set mem_5 31 (mem_5 30 2).toNatClampNeg v1) 32 ((am_set mem_5 31 (mem_5 30 2).toNatClampNeg v1) 30 2).toNatClampNeg v2) 30 2).toNatClampNeg v3) 34 ((am_set (am_set (am_set mem_5 31 (mem_5 30 2).toNatClampNeg v1) 32 ((am_set mem_5 31 (mem_5 30 2).toNatClampNeg v1) 30 2).toNatClampNeg v2) 33 ((am_set (am_set mem_5 31 (mem_5 30 2).toNatClampNeg v1) 32 ((am_set mem_5 31 (mem_5 30 2).toNatClampNeg v1) 30 2).toNatClampNeg v2) 30 2).toNatClampNeg v3) 30 2).toNatClampNeg v4) 35 ((am_set (am_set (am_set (am_set mem_5 31 (mem_5 30 2).toNatClampNeg v1) 32 ((am_set mem_5 31 (mem_5 30 2).toNatClampNeg v1) 30 2).toNatClampNeg v2) 33 ((am_set (am_set mem_5 31 (mem_5 30 2).toNatClampNeg v1) 32 ((am_set mem_5 31 (mem_5 30 2).toNatClampNeg v1) 30 2).toNatClampNeg v2) 30 2).toNatClampNeg v3) 34 ((am_set (am_set (am_set mem_5 31 (mem_5 30 2).toNatClampNeg v1) 32 ((am_set mem_5 31 (mem_5 30 2).toNatClampNeg v1) 30 2).toNatClampNeg v2) 33 ((am_set (am_set mem_5 31 (mem_5 30 2).toNatClampNeg v1) 32 ((am_set mem_5 31 (mem_5 30 2).toNatClampNeg v1) 30 2).toNatClampNeg v2) 30 2).toNatClampNeg v3) 30 2).toNatClampNeg v4) 30 2).toNatClampNeg v5) 36 ((am_set (am_set (am_set (am_set (am_set mem_5 31 (mem_5 30 2).toNatClampNeg v1) 32 ((am_set mem_5 31 (mem_5 30 2).toNatClampNeg v1) 30 2).toNatClampNeg v2) 33 ((am_set (am_set mem_5 31 (mem_5 30 2).toNatClampNeg v1) 32 ((am_set mem_5 31 (mem_5 30 2).toNatClampNeg v1) 30 2).toNatClampNeg v2) 30 2).toNatClampNeg v3) 34 ((am_set (am_set (am_set mem_5 31 (mem_5 30 2).toNatClampNeg v1) 32 ((am_set mem_5 31 (mem_5 30 2).toNatClampNeg v1) 30 2).toNatClampNeg v2) 33 ((am_set (am_set mem_5 31 (mem_5 30 2).toNatClampNeg v1) 32 ((am_set mem_5 31 (mem_5 30 2).toNatClampNeg v1) 30 2).toNatClampNeg v2) 30 2).toNatClampNeg v3) 30 2).toNatClampNeg v4) 35 ((am_set (am_set (am_set (am_set mem_5 31 (mem_5 30 2).toNatClampNeg v1) 32 ((am_set mem_5 31 (mem_5 30 2).toNatClampNeg v1) 30 2).toNatClampNeg v2) 33 ((am_set (am_set mem_5 31 (mem_5 30 2).toNatClampNeg v1) 32 ((am_set mem_5 31 (mem_5 30 2).toNatClampNeg v1) 30 2).toNatClampNeg v2) 30 2).toNatClampNeg v3) 34 ((am_set (am_set (am_set mem_5 31 (mem_5 30 2).toNatClampNeg v1) 32 ((am_set mem_5 31 (mem_5 30 2).toNatClampNeg v1) 30 2).toNatClampNeg v2) 33 ((am_set (am_set mem_5 31 (mem_5 30 2).toNatClampNeg v1) 32 ((am_set mem_5 31 (mem_5 30 2).toNatClampNeg v1) 30 2).toNatClampNeg v2) 30 2).toNatClampNeg v3) 30 2).toNatClampNeg v4) 30 2).toNatClampNeg v5) 30 2).toNatClampNeg 15) 30 2).toNatClampNeg (-9)) 30 2) + (1 : Int32))))))))))) ∧ ((mem_5 30 2) = 8 → Q (some (.int (-4))) mem_5)) ∧ (r_5 = 0 → Q (some (.int (-2))) mem_5))))))))))) : am_J m7_site (D + 1) 0 [.ref 30, .int v1, .int v2, .int v3, .int v4, .int v5] [] mem Q := by
  refine am_iload_n (pc := 0) 1 dX7_site_0 rfl rfl ?_
  refine am_i2l (pc := 1) dX7_site_1 ?_
  refine am_lconst (pc := 2) (v := 0) dX7_site_2 rfl ?_
  refine am_aload_n (pc := 3) 0 dX7_site_3 rfl rfl ?_
  refine am_getI (pc := 4) (k := 0) cl7 sh30 (by decide) (by decide) f7_7 rfl dX7_site_4 ?_
  refine am_i2l (pc := 7) dX7_site_7 ?_
  refine am_callS (pc := 8) m7_in D 3 [.long ((v1).toInt64), .long 0, .long ((mem 30 0).toInt64)] (rest := []) ok7_in (by omega) rfl rfl l7_77 st7_in (Nat.le_of_ble_eq_true rfl) dX7_site_8 ?_
  refine am_Ci.use h (fun r_1 mem_1 h => ?_)
  show am_J m7_site (D + 1) 11 [.ref 30, .int v1, .int v2, .int v3, .int v4, .int v5] [.int r_1] mem_1 Q
  refine am_if_eq (pc := 11) 66 dX7_site_11 (by decide) (fun c => ?_) (fun c => ?_)
  · replace h := h.1 c
    refine am_bipush (pc := 66) (v := -2) dX7_site_66 rfl ?_
    exact am_ireturn rfl dX7_site_68 h
  · replace h := h.2 c
    refine am_iload_n (pc := 14) 2 dX7_site_14 rfl rfl ?_
    refine am_i2l (pc := 15) dX7_site_15 ?_
    refine am_lconst (pc := 16) (v := 0) dX7_site_16 rfl ?_
    refine am_aload_n (pc := 17) 0 dX7_site_17 rfl rfl ?_
    refine am_getI (pc := 18) (k := 1) cl7 sh30 (by decide) (by decide) f7_13 rfl dX7_site_18 ?_
    refine am_i2l (pc := 21) dX7_site_21 ?_
    refine am_callS (pc := 22) m7_in D 3 [.long ((v2).toInt64), .long 0, .long ((mem_1 30 1).toInt64)] (rest := []) ok7_in (by omega) rfl rfl l7_77 st7_in (Nat.le_of_ble_eq_true rfl) dX7_site_22 ?_
    refine am_Ci.use h (fun r_2 mem_2 h => ?_)
    show am_J m7_site (D + 1) 25 [.ref 30, .int v1, .int v2, .int v3, .int v4, .int v5] [.int r_2] mem_2 Q
    refine am_if_eq (pc := 25) 66 dX7_site_25 (by decide) (fun c => ?_) (fun c => ?_)
    · replace h := h.1 c
      refine am_bipush (pc := 66) (v := -2) dX7_site_66 rfl ?_
      exact am_ireturn rfl dX7_site_68 h
    · replace h := h.2 c
      refine am_iload_n (pc := 28) 3 dX7_site_28 rfl rfl ?_
      refine am_i2l (pc := 29) dX7_site_29 ?_
      refine am_lconst (pc := 30) (v := 1) dX7_site_30 rfl ?_
      refine am_ldc2 (pc := 31) k7_87 dX7_site_31 ?_
      refine am_callS (pc := 34) m7_in D 3 [.long ((v3).toInt64), .long 1, .long 60] (rest := []) ok7_in (by omega) rfl rfl l7_77 st7_in (Nat.le_of_ble_eq_true rfl) dX7_site_34 ?_
      refine am_Ci.use h (fun r_3 mem_3 h => ?_)
      show am_J m7_site (D + 1) 37 [.ref 30, .int v1, .int v2, .int v3, .int v4, .int v5] [.int r_3] mem_3 Q
      refine am_if_eq (pc := 37) 66 dX7_site_37 (by decide) (fun c => ?_) (fun c => ?_)
      · replace h := h.1 c
        refine am_bipush (pc := 66) (v := -2) dX7_site_66 rfl ?_
        exact am_ireturn rfl dX7_site_68 h
      · replace h := h.2 c
        refine am_iload (pc := 40) dX7_site_40 rfl ?_
        refine am_i2l (pc := 42) dX7_site_42 ?_
        refine am_lconst (pc := 43) (v := 1) dX7_site_43 rfl ?_
        refine am_ldc2 (pc := 44) k7_89 dX7_site_44 ?_
        refine am_callS (pc := 47) m7_in D 3 [.long ((v4).toInt64), .long 1, .long 20] (rest := []) ok7_in (by omega) rfl rfl l7_77 st7_in (Nat.le_of_ble_eq_true rfl) dX7_site_47 ?_
        refine am_Ci.use h (fun r_4 mem_4 h => ?_)
        show am_J m7_site (D + 1) 50 [.ref 30, .int v1, .int v2, .int v3, .int v4, .int v5] [.int r_4] mem_4 Q
        refine am_if_eq (pc := 50) 66 dX7_site_50 (by decide) (fun c => ?_) (fun c => ?_)
        · replace h := h.1 c
          refine am_bipush (pc := 66) (v := -2) dX7_site_66 rfl ?_
          exact am_ireturn rfl dX7_site_68 h
        · replace h := h.2 c
          refine am_iload (pc := 53) dX7_site_53 rfl ?_
          refine am_i2l (pc := 55) dX7_site_55 ?_
          refine am_lconst (pc := 56) (v := 1) dX7_site_56 rfl ?_
          refine am_ldc2 (pc := 57) k7_91 dX7_site_57 ?_
          refine am_callS (pc := 60) m7_in D 3 [.long ((v5).toInt64), .long 1, .long 99] (rest := []) ok7_in (by omega) rfl rfl l7_77 st7_in (Nat.le_of_ble_eq_true rfl) dX7_site_60 ?_
          refine am_Ci.use h (fun r_5 mem_5 h => ?_)
          show am_J m7_site (D + 1) 63 [.ref 30, .int v1, .int v2, .int v3, .int v4, .int v5] [.int r_5] mem_5 Q
          refine am_if_ne (pc := 63) 69 dX7_site_63 (by decide) (fun c => ?_) (fun c => ?_)
          · replace h := h.1 c
            refine am_aload_n (pc := 69) 0 dX7_site_69 rfl rfl ?_
            refine am_getI (pc := 70) (k := 2) cl7 sh30 (by decide) (by decide) f7_74 rfl dX7_site_70 ?_
            refine am_bipush (pc := 73) (v := 8) dX7_site_73 rfl ?_
            refine am_icmp_ne (pc := 75) 81 dX7_site_75 (by decide) (fun c => ?_) (fun c => ?_)
            · replace h := h.1 c
              refine am_aload_n (pc := 81) 0 dX7_site_81 rfl rfl ?_
              refine am_getR (pc := 82) (k := 3) cl7 sh30 (by decide) (by decide) f7_16 rfl dX7_site_82 ?_
              refine am_aload_n (pc := 85) 0 dX7_site_85 rfl rfl ?_
              refine am_getI (pc := 86) (k := 2) cl7 sh30 (by decide) (by decide) f7_74 rfl dX7_site_86 ?_
              refine am_iload_n (pc := 89) 1 dX7_site_89 rfl rfl ?_
              refine am_iast (pc := 90) sh31 (by decide) h.1 dX7_site_90 ?_
              replace h := h.2
              refine am_aload_n (pc := 91) 0 dX7_site_91 rfl rfl ?_
              refine am_getR (pc := 92) (k := 4) cl7 sh30 (by decide) (by decide) f7_20 rfl dX7_site_92 ?_
              refine am_aload_n (pc := 95) 0 dX7_site_95 rfl rfl ?_
              refine am_getI (pc := 96) (k := 2) cl7 sh30 (by decide) (by decide) f7_74 rfl dX7_site_96 ?_
              refine am_iload_n (pc := 99) 2 dX7_site_99 rfl rfl ?_
              refine am_iast (pc := 100) sh32 (by decide) h.1 dX7_site_100 ?_
              replace h := h.2
              refine am_aload_n (pc := 101) 0 dX7_site_101 rfl rfl ?_
              refine am_getR (pc := 102) (k := 5) cl7 sh30 (by decide) (by decide) f7_23 rfl dX7_site_102 ?_
              refine am_aload_n (pc := 105) 0 dX7_site_105 rfl rfl ?_
              refine am_getI (pc := 106) (k := 2) cl7 sh30 (by decide) (by decide) f7_74 rfl dX7_site_106 ?_
              refine am_iload_n (pc := 109) 3 dX7_site_109 rfl rfl ?_
              refine am_iast (pc := 110) sh33 (by decide) h.1 dX7_site_110 ?_
              replace h := h.2
              refine am_aload_n (pc := 111) 0 dX7_site_111 rfl rfl ?_
              refine am_getR (pc := 112) (k := 6) cl7 sh30 (by decide) (by decide) f7_26 rfl dX7_site_112 ?_
              refine am_aload_n (pc := 115) 0 dX7_site_115 rfl rfl ?_
              refine am_getI (pc := 116) (k := 2) cl7 sh30 (by decide) (by decide) f7_74 rfl dX7_site_116 ?_
              refine am_iload (pc := 119) dX7_site_119 rfl ?_
              refine am_iast (pc := 121) sh34 (by decide) h.1 dX7_site_121 ?_
              replace h := h.2
              refine am_aload_n (pc := 122) 0 dX7_site_122 rfl rfl ?_
              refine am_getR (pc := 123) (k := 7) cl7 sh30 (by decide) (by decide) f7_29 rfl dX7_site_123 ?_
              refine am_aload_n (pc := 126) 0 dX7_site_126 rfl rfl ?_
              refine am_getI (pc := 127) (k := 2) cl7 sh30 (by decide) (by decide) f7_74 rfl dX7_site_127 ?_
              refine am_iload (pc := 130) dX7_site_130 rfl ?_
              refine am_iast (pc := 132) sh35 (by decide) h.1 dX7_site_132 ?_
              replace h := h.2
              refine am_aload_n (pc := 133) 0 dX7_site_133 rfl rfl ?_
              refine am_getR (pc := 134) (k := 8) cl7 sh30 (by decide) (by decide) f7_32 rfl dX7_site_134 ?_
              refine am_aload_n (pc := 137) 0 dX7_site_137 rfl rfl ?_
              refine am_getI (pc := 138) (k := 2) cl7 sh30 (by decide) (by decide) f7_74 rfl dX7_site_138 ?_
              refine am_bipush (pc := 141) (v := 15) dX7_site_141 rfl ?_
              refine am_iast (pc := 143) sh36 (by decide) h.1 dX7_site_143 ?_
              replace h := h.2
              refine am_aload_n (pc := 144) 0 dX7_site_144 rfl rfl ?_
              refine am_getR (pc := 145) (k := 9) cl7 sh30 (by decide) (by decide) f7_35 rfl dX7_site_145 ?_
              refine am_aload_n (pc := 148) 0 dX7_site_148 rfl rfl ?_
              refine am_getI (pc := 149) (k := 2) cl7 sh30 (by decide) (by decide) f7_74 rfl dX7_site_149 ?_
              refine am_bipush (pc := 152) (v := -9) dX7_site_152 rfl ?_
              refine am_iast (pc := 154) sh37 (by decide) h.1 dX7_site_154 ?_
              replace h := h.2
              refine am_aload_n (pc := 155) 0 dX7_site_155 rfl rfl ?_
              refine am_dup (pc := 156) dX7_site_156 rfl ?_
              refine am_getI (pc := 157) (k := 2) cl7 sh30 (by decide) (by decide) f7_74 rfl dX7_site_157 ?_
              refine am_iconst (pc := 160) (v := 1) dX7_site_160 rfl ?_
              refine am_iadd (pc := 161) dX7_site_161 ?_
              refine am_putI (pc := 162) (k := 2) cl7 sh30 (by decide) (by decide) f7_74 rfl rfl rfl dX7_site_162 ?_
              refine am_aload_n (pc := 165) 0 dX7_site_165 rfl rfl ?_
              refine am_getI (pc := 166) (k := 2) cl7 sh30 (by decide) (by decide) f7_74 rfl dX7_site_166 ?_
              refine am_iconst (pc := 169) (v := 1) dX7_site_169 rfl ?_
              refine am_isub (pc := 170) dX7_site_170 ?_
              exact am_ireturn rfl dX7_site_171 h
            · replace h := h.2 c
              refine am_bipush (pc := 78) (v := -4) dX7_site_78 rfl ?_
              exact am_ireturn rfl dX7_site_80 h
          · replace h := h.2 c
            refine am_bipush (pc := 66) (v := -2) dX7_site_66 rfl ?_
            exact am_ireturn rfl dX7_site_68 h
set_option maxRecDepth 100000 in
set_option maxHeartbeats 4000000 in
theorem sg7_move_0 {D : Nat} {mem : am_Mem} {Q : Option Value → am_Mem → Prop} {v1 : Int32} {v2 : Int32} {v3 : Int32} (h : am_Ci m7_isSite D [.ref 30, .int v1] mem (fun r_1 mem_1 => (¬ r_1 = 0 → am_Ci m7_in D [.long ((v2).toInt64), .long 0, .long ((mem_1 30 0).toInt64)] mem_1 (fun r_2 mem_2 => (r_2 = 0 → Q (some (.int (-2))) mem_2) ∧ (¬ r_2 = 0 → am_Ci m7_in D [.long ((v3).toInt64), .long 0, .long ((mem_2 30 1).toInt64)] mem_2 (fun r_3 mem_3 => (¬ r_3 = 0 → vp_in v1 8 ∧ (vp_in v1 8 ∧ (vp_in v1 8 ∧ (vp_in v1 8 ∧ (Q (some (.int (((1000 : Int32) * (mem_3 31 v1.toNatClampNeg)) + (mem_3 32 v1.toNatClampNeg)))) (am_set (am_set mem_3 31 v1.toNatClampNeg v2) 32 v1.toNatClampNeg v3)))))) ∧ (r_3 = 0 → Q (some (.int (-2))) mem_3))))) ∧ (r_1 = 0 → Q (some (.int (-1))) mem_1))) : am_J m7_move (D + 1) 0 [.ref 30, .int v1, .int v2, .int v3, .null] [] mem Q := by
  refine am_aload_n (pc := 0) 0 dX7_move_0 rfl rfl ?_
  refine am_iload_n (pc := 1) 1 dX7_move_1 rfl rfl ?_
  refine am_callV (pc := 2) m7_isSite D 1 [.int v1] (rest := []) ok7_isSite (by omega) rfl rfl sh30 (by decide) rfl l7_93 in7_isSite se7_isSite (Nat.le_of_ble_eq_true rfl) dX7_move_2 ?_
  refine am_Ci.use h (fun r_1 mem_1 h => ?_)
  show am_J m7_move (D + 1) 5 [.ref 30, .int v1, .int v2, .int v3, .null] [.int r_1] mem_1 Q
  refine am_if_ne (pc := 5) 10 dX7_move_5 (by decide) (fun c => ?_) (fun c => ?_)
  · replace h := h.1 c
    refine am_iload_n (pc := 10) 2 dX7_move_10 rfl rfl ?_
    refine am_i2l (pc := 11) dX7_move_11 ?_
    refine am_lconst (pc := 12) (v := 0) dX7_move_12 rfl ?_
    refine am_aload_n (pc := 13) 0 dX7_move_13 rfl rfl ?_
    refine am_getI (pc := 14) (k := 0) cl7 sh30 (by decide) (by decide) f7_7 rfl dX7_move_14 ?_
    refine am_i2l (pc := 17) dX7_move_17 ?_
    refine am_callS (pc := 18) m7_in D 3 [.long ((v2).toInt64), .long 0, .long ((mem_1 30 0).toInt64)] (rest := []) ok7_in (by omega) rfl rfl l7_77 st7_in (Nat.le_of_ble_eq_true rfl) dX7_move_18 ?_
    refine am_Ci.use h (fun r_2 mem_2 h => ?_)
    show am_J m7_move (D + 1) 21 [.ref 30, .int v1, .int v2, .int v3, .null] [.int r_2] mem_2 Q
    refine am_if_eq (pc := 21) 38 dX7_move_21 (by decide) (fun c => ?_) (fun c => ?_)
    · replace h := h.1 c
      refine am_bipush (pc := 38) (v := -2) dX7_move_38 rfl ?_
      exact am_ireturn rfl dX7_move_40 h
    · replace h := h.2 c
      refine am_iload_n (pc := 24) 3 dX7_move_24 rfl rfl ?_
      refine am_i2l (pc := 25) dX7_move_25 ?_
      refine am_lconst (pc := 26) (v := 0) dX7_move_26 rfl ?_
      refine am_aload_n (pc := 27) 0 dX7_move_27 rfl rfl ?_
      refine am_getI (pc := 28) (k := 1) cl7 sh30 (by decide) (by decide) f7_13 rfl dX7_move_28 ?_
      refine am_i2l (pc := 31) dX7_move_31 ?_
      refine am_callS (pc := 32) m7_in D 3 [.long ((v3).toInt64), .long 0, .long ((mem_2 30 1).toInt64)] (rest := []) ok7_in (by omega) rfl rfl l7_77 st7_in (Nat.le_of_ble_eq_true rfl) dX7_move_32 ?_
      refine am_Ci.use h (fun r_3 mem_3 h => ?_)
      show am_J m7_move (D + 1) 35 [.ref 30, .int v1, .int v2, .int v3, .null] [.int r_3] mem_3 Q
      refine am_if_ne (pc := 35) 41 dX7_move_35 (by decide) (fun c => ?_) (fun c => ?_)
      · replace h := h.1 c
        refine am_sipush (pc := 41) (v := 1000) dX7_move_41 rfl ?_
        refine am_aload_n (pc := 44) 0 dX7_move_44 rfl rfl ?_
        refine am_getR (pc := 45) (k := 3) cl7 sh30 (by decide) (by decide) f7_16 rfl dX7_move_45 ?_
        refine am_iload_n (pc := 48) 1 dX7_move_48 rfl rfl ?_
        refine am_iald (pc := 49) sh31 (by decide) h.1 dX7_move_49 ?_
        replace h := h.2
        refine am_imul (pc := 50) dX7_move_50 ?_
        refine am_aload_n (pc := 51) 0 dX7_move_51 rfl rfl ?_
        refine am_getR (pc := 52) (k := 4) cl7 sh30 (by decide) (by decide) f7_20 rfl dX7_move_52 ?_
        refine am_iload_n (pc := 55) 1 dX7_move_55 rfl rfl ?_
        refine am_iald (pc := 56) sh32 (by decide) h.1 dX7_move_56 ?_
        replace h := h.2
        refine am_iadd (pc := 57) dX7_move_57 ?_
        refine am_istoreE (pc := 58) (loc' := [.ref 30, .int v1, .int v2, .int v3, .int (((1000 : Int32) * (mem_3 31 v1.toNatClampNeg)) + (mem_3 32 v1.toNatClampNeg))]) dX7_move_58 (by decide) rfl rfl ?_
        refine am_aload_n (pc := 60) 0 dX7_move_60 rfl rfl ?_
        refine am_getR (pc := 61) (k := 3) cl7 sh30 (by decide) (by decide) f7_16 rfl dX7_move_61 ?_
        refine am_iload_n (pc := 64) 1 dX7_move_64 rfl rfl ?_
        refine am_iload_n (pc := 65) 2 dX7_move_65 rfl rfl ?_
        refine am_iast (pc := 66) sh31 (by decide) h.1 dX7_move_66 ?_
        replace h := h.2
        refine am_aload_n (pc := 67) 0 dX7_move_67 rfl rfl ?_
        refine am_getR (pc := 68) (k := 4) cl7 sh30 (by decide) (by decide) f7_20 rfl dX7_move_68 ?_
        refine am_iload_n (pc := 71) 1 dX7_move_71 rfl rfl ?_
        refine am_iload_n (pc := 72) 3 dX7_move_72 rfl rfl ?_
        refine am_iast (pc := 73) sh32 (by decide) h.1 dX7_move_73 ?_
        replace h := h.2
        refine am_iload (pc := 74) dX7_move_74 rfl ?_
        exact am_ireturn rfl dX7_move_76 h
      · replace h := h.2 c
        refine am_bipush (pc := 38) (v := -2) dX7_move_38 rfl ?_
        exact am_ireturn rfl dX7_move_40 h
  · replace h := h.2 c
    refine am_iconst (pc := 8) (v := -1) dX7_move_8 rfl ?_
    exact am_ireturn rfl dX7_move_9 h
set_option maxRecDepth 100000 in
set_option maxHeartbeats 4000000 in
theorem sg7_allow_0 {D : Nat} {mem : am_Mem} {Q : Option Value → am_Mem → Prop} {v1 : Int32} {v2 : Int32} {v3 : Int32} (h : am_Ci m7_isSite D [.ref 30, .int v1] mem (fun r_1 mem_1 => (¬ r_1 = 0 → am_Ci m7_isCorner D [.int v2] mem_1 (fun r_2 mem_2 => (¬ r_2 = 0 → vp_in v1 8 ∧ ((v3 = 0 → vp_in v1 8 ∧ (vp_in v1 8 ∧ (Q (some (.int (((mem_2 36 v1.toNatClampNeg) >>> (v2 &&& 31)) &&& (1 : Int32)))) (am_set mem_2 36 v1.toNatClampNeg ((mem_2 36 v1.toNatClampNeg) &&& (((1 : Int32) <<< (v2 &&& 31)) ^^^ (-1 : Int32))))))) ∧ (¬ v3 = 0 → vp_in v1 8 ∧ (vp_in v1 8 ∧ (Q (some (.int (((mem_2 36 v1.toNatClampNeg) >>> (v2 &&& 31)) &&& (1 : Int32)))) (am_set mem_2 36 v1.toNatClampNeg ((mem_2 36 v1.toNatClampNeg) ||| ((1 : Int32) <<< (v2 &&& 31))))))))) ∧ (r_2 = 0 → Q (some (.int (-2))) mem_2))) ∧ (r_1 = 0 → Q (some (.int (-1))) mem_1))) : am_J m7_allow (D + 1) 0 [.ref 30, .int v1, .int v2, .int v3, .null] [] mem Q := by
  refine am_aload_n (pc := 0) 0 dX7_allow_0 rfl rfl ?_
  refine am_iload_n (pc := 1) 1 dX7_allow_1 rfl rfl ?_
  refine am_callV (pc := 2) m7_isSite D 1 [.int v1] (rest := []) ok7_isSite (by omega) rfl rfl sh30 (by decide) rfl l7_93 in7_isSite se7_isSite (Nat.le_of_ble_eq_true rfl) dX7_allow_2 ?_
  refine am_Ci.use h (fun r_1 mem_1 h => ?_)
  show am_J m7_allow (D + 1) 5 [.ref 30, .int v1, .int v2, .int v3, .null] [.int r_1] mem_1 Q
  refine am_if_ne (pc := 5) 10 dX7_allow_5 (by decide) (fun c => ?_) (fun c => ?_)
  · replace h := h.1 c
    refine am_iload_n (pc := 10) 2 dX7_allow_10 rfl rfl ?_
    refine am_callS (pc := 11) m7_isCorner D 1 [.int v2] (rest := []) ok7_isCorner (by omega) rfl rfl l7_97 st7_isCorner (Nat.le_of_ble_eq_true rfl) dX7_allow_11 ?_
    refine am_Ci.use h (fun r_2 mem_2 h => ?_)
    show am_J m7_allow (D + 1) 14 [.ref 30, .int v1, .int v2, .int v3, .null] [.int r_2] mem_2 Q
    refine am_if_ne (pc := 14) 20 dX7_allow_14 (by decide) (fun c => ?_) (fun c => ?_)
    · replace h := h.1 c
      refine am_aload_n (pc := 20) 0 dX7_allow_20 rfl rfl ?_
      refine am_getR (pc := 21) (k := 8) cl7 sh30 (by decide) (by decide) f7_32 rfl dX7_allow_21 ?_
      refine am_iload_n (pc := 24) 1 dX7_allow_24 rfl rfl ?_
      refine am_iald (pc := 25) sh36 (by decide) h.1 dX7_allow_25 ?_
      replace h := h.2
      refine am_iload_n (pc := 26) 2 dX7_allow_26 rfl rfl ?_
      refine am_ishr (pc := 27) dX7_allow_27 ?_
      refine am_iconst (pc := 28) (v := 1) dX7_allow_28 rfl ?_
      refine am_iand (pc := 29) dX7_allow_29 ?_
      refine am_istoreE (pc := 30) (loc' := [.ref 30, .int v1, .int v2, .int v3, .int (((mem_2 36 v1.toNatClampNeg) >>> (v2 &&& 31)) &&& (1 : Int32))]) dX7_allow_30 (by decide) rfl rfl ?_
      refine am_aload_n (pc := 32) 0 dX7_allow_32 rfl rfl ?_
      refine am_getR (pc := 33) (k := 8) cl7 sh30 (by decide) (by decide) f7_32 rfl dX7_allow_33 ?_
      refine am_iload_n (pc := 36) 1 dX7_allow_36 rfl rfl ?_
      refine am_iload_n (pc := 37) 3 dX7_allow_37 rfl rfl ?_
      refine am_if_eq (pc := 38) 54 dX7_allow_38 (by decide) (fun c => ?_) (fun c => ?_)
      · replace h := h.1 c
        refine am_aload_n (pc := 54) 0 dX7_allow_54 rfl rfl ?_
        refine am_getR (pc := 55) (k := 8) cl7 sh30 (by decide) (by decide) f7_32 rfl dX7_allow_55 ?_
        refine am_iload_n (pc := 58) 1 dX7_allow_58 rfl rfl ?_
        refine am_iald (pc := 59) sh36 (by decide) h.1 dX7_allow_59 ?_
        replace h := h.2
        refine am_iconst (pc := 60) (v := 1) dX7_allow_60 rfl ?_
        refine am_iload_n (pc := 61) 2 dX7_allow_61 rfl rfl ?_
        refine am_ishl (pc := 62) dX7_allow_62 ?_
        refine am_iconst (pc := 63) (v := -1) dX7_allow_63 rfl ?_
        refine am_ixor (pc := 64) dX7_allow_64 ?_
        refine am_iand (pc := 65) dX7_allow_65 ?_
        refine am_iast (pc := 66) sh36 (by decide) h.1 dX7_allow_66 ?_
        replace h := h.2
        refine am_iload (pc := 67) dX7_allow_67 rfl ?_
        exact am_ireturn rfl dX7_allow_69 h
      · replace h := h.2 c
        refine am_aload_n (pc := 41) 0 dX7_allow_41 rfl rfl ?_
        refine am_getR (pc := 42) (k := 8) cl7 sh30 (by decide) (by decide) f7_32 rfl dX7_allow_42 ?_
        refine am_iload_n (pc := 45) 1 dX7_allow_45 rfl rfl ?_
        refine am_iald (pc := 46) sh36 (by decide) h.1 dX7_allow_46 ?_
        replace h := h.2
        refine am_iconst (pc := 47) (v := 1) dX7_allow_47 rfl ?_
        refine am_iload_n (pc := 48) 2 dX7_allow_48 rfl rfl ?_
        refine am_ishl (pc := 49) dX7_allow_49 ?_
        refine am_ior (pc := 50) dX7_allow_50 ?_
        refine am_goto (pc := 51) 66 dX7_allow_51 (by decide) ?_
        refine am_iast (pc := 66) sh36 (by decide) h.1 dX7_allow_66 ?_
        replace h := h.2
        refine am_iload (pc := 67) dX7_allow_67 rfl ?_
        exact am_ireturn rfl dX7_allow_69 h
    · replace h := h.2 c
      refine am_bipush (pc := 17) (v := -2) dX7_allow_17 rfl ?_
      exact am_ireturn rfl dX7_allow_19 h
  · replace h := h.2 c
    refine am_iconst (pc := 8) (v := -1) dX7_allow_8 rfl ?_
    exact am_ireturn rfl dX7_allow_9 h
set_option maxRecDepth 100000 in
set_option maxHeartbeats 4000000 in
theorem sg7_rule_0 {D : Nat} {mem : am_Mem} {Q : Option Value → am_Mem → Prop} {v1 : Int32} {v2 : Int32} (h : (¬ v1 = 0 → am_J m7_rule (D + 1) 16 [.ref 30, .int v1, .int v2, .null] [] mem Q) ∧ (v1 = 0 → am_Ci m7_in D [.long ((v2).toInt64), .long 1, .long 40] mem (fun r_1 mem_1 => (¬ r_1 = 0 → am_J m7_rule (D + 1) 36 [.ref 30, .int v1, .int v2, .null] [] mem_1 Q) ∧ (r_1 = 0 → am_J m7_rule (D + 1) 16 [.ref 30, .int v1, .int v2, .null] [] mem_1 Q)))) : am_J m7_rule (D + 1) 0 [.ref 30, .int v1, .int v2, .null] [] mem Q := by
  refine am_iload_n (pc := 0) 1 dX7_rule_0 rfl rfl ?_
  refine am_if_ne (pc := 1) 16 dX7_rule_1 (by decide) (fun c => ?_) (fun c => ?_)
  · replace h := h.1 c
    exact h
  · replace h := h.2 c
    refine am_iload_n (pc := 4) 2 dX7_rule_4 rfl rfl ?_
    refine am_i2l (pc := 5) dX7_rule_5 ?_
    refine am_lconst (pc := 6) (v := 1) dX7_rule_6 rfl ?_
    refine am_ldc2 (pc := 7) k7_100 dX7_rule_7 ?_
    refine am_callS (pc := 10) m7_in D 3 [.long ((v2).toInt64), .long 1, .long 40] (rest := []) ok7_in (by omega) rfl rfl l7_77 st7_in (Nat.le_of_ble_eq_true rfl) dX7_rule_10 ?_
    refine am_Ci.use h (fun r_1 mem_1 h => ?_)
    show am_J m7_rule (D + 1) 13 [.ref 30, .int v1, .int v2, .null] [.int r_1] mem_1 Q
    refine am_if_ne (pc := 13) 36 dX7_rule_13 (by decide) (fun c => ?_) (fun c => ?_)
    · replace h := h.1 c
      exact h
    · replace h := h.2 c
      exact h
set_option maxRecDepth 100000 in
set_option maxHeartbeats 4000000 in
theorem sg7_rule_16 {D : Nat} {mem : am_Mem} {Q : Option Value → am_Mem → Prop} {v1 : Int32} {v2 : Int32} (h : (¬ v1 = 1 → Q (some (.int (-2))) mem) ∧ (v1 = 1 → am_Ci m7_in D [.long ((v2).toInt64), .long 0, .long 20] mem (fun r_1 mem_1 => (¬ r_1 = 0 → am_J m7_rule (D + 1) 36 [.ref 30, .int v1, .int v2, .null] [] mem_1 Q) ∧ (r_1 = 0 → Q (some (.int (-2))) mem_1)))) : am_J m7_rule (D + 1) 16 [.ref 30, .int v1, .int v2, .null] [] mem Q := by
  refine am_iload_n (pc := 16) 1 dX7_rule_16 rfl rfl ?_
  refine am_iconst (pc := 17) (v := 1) dX7_rule_17 rfl ?_
  refine am_icmp_ne (pc := 18) 33 dX7_rule_18 (by decide) (fun c => ?_) (fun c => ?_)
  · replace h := h.1 c
    refine am_bipush (pc := 33) (v := -2) dX7_rule_33 rfl ?_
    exact am_ireturn rfl dX7_rule_35 h
  · replace h := h.2 c
    refine am_iload_n (pc := 21) 2 dX7_rule_21 rfl rfl ?_
    refine am_i2l (pc := 22) dX7_rule_22 ?_
    refine am_lconst (pc := 23) (v := 0) dX7_rule_23 rfl ?_
    refine am_ldc2 (pc := 24) k7_89 dX7_rule_24 ?_
    refine am_callS (pc := 27) m7_in D 3 [.long ((v2).toInt64), .long 0, .long 20] (rest := []) ok7_in (by omega) rfl rfl l7_77 st7_in (Nat.le_of_ble_eq_true rfl) dX7_rule_27 ?_
    refine am_Ci.use h (fun r_1 mem_1 h => ?_)
    show am_J m7_rule (D + 1) 30 [.ref 30, .int v1, .int v2, .null] [.int r_1] mem_1 Q
    refine am_if_ne (pc := 30) 36 dX7_rule_30 (by decide) (fun c => ?_) (fun c => ?_)
    · replace h := h.1 c
      exact h
    · replace h := h.2 c
      refine am_bipush (pc := 33) (v := -2) dX7_rule_33 rfl ?_
      exact am_ireturn rfl dX7_rule_35 h
set_option maxRecDepth 100000 in
set_option maxHeartbeats 4000000 in
theorem sg7_rule_36 {D : Nat} {mem : am_Mem} {Q : Option Value → am_Mem → Prop} {v1 : Int32} {v2 : Int32} (h : (¬ v1 = 0 → am_J m7_rule (D + 1) 51 [.ref 30, .int v1, .int v2, .null] [.int (mem 30 11)] mem Q) ∧ (v1 = 0 → am_J m7_rule (D + 1) 51 [.ref 30, .int v1, .int v2, .null] [.int (mem 30 10)] mem Q)) : am_J m7_rule (D + 1) 36 [.ref 30, .int v1, .int v2, .null] [] mem Q := by
  refine am_iload_n (pc := 36) 1 dX7_rule_36 rfl rfl ?_
  refine am_if_ne (pc := 37) 47 dX7_rule_37 (by decide) (fun c => ?_) (fun c => ?_)
  · replace h := h.1 c
    refine am_aload_n (pc := 47) 0 dX7_rule_47 rfl rfl ?_
    refine am_getI (pc := 48) (k := 11) cl7 sh30 (by decide) (by decide) f7_102 rfl dX7_rule_48 ?_
    exact h
  · replace h := h.2 c
    refine am_aload_n (pc := 40) 0 dX7_rule_40 rfl rfl ?_
    refine am_getI (pc := 41) (k := 10) cl7 sh30 (by decide) (by decide) f7_38 rfl dX7_rule_41 ?_
    refine am_goto (pc := 44) 51 dX7_rule_44 (by decide) ?_
    exact h
set_option maxRecDepth 100000 in
set_option maxHeartbeats 4000000 in
theorem sg7_rule_51 {D : Nat} {mem : am_Mem} {Q : Option Value → am_Mem → Prop} {v1 : Int32} {v2 : Int32} {s0 : Int32} (h : (¬ v1 = 0 → am_J m7_rule (D + 1) 65 [.ref 30, .int v1, .int v2, .int s0] [.int (mem 30 10), .ref 30] mem Q) ∧ (v1 = 0 → am_J m7_rule (D + 1) 65 [.ref 30, .int v1, .int v2, .int s0] [.int v2, .ref 30] mem Q)) : am_J m7_rule (D + 1) 51 [.ref 30, .int v1, .int v2, .null] [.int s0] mem Q := by
  refine am_istoreE_n (pc := 51) 3 (loc' := [.ref 30, .int v1, .int v2, .int s0]) dX7_rule_51 rfl (by decide) rfl rfl ?_
  refine am_aload_n (pc := 52) 0 dX7_rule_52 rfl rfl ?_
  refine am_iload_n (pc := 53) 1 dX7_rule_53 rfl rfl ?_
  refine am_if_ne (pc := 54) 61 dX7_rule_54 (by decide) (fun c => ?_) (fun c => ?_)
  · replace h := h.1 c
    refine am_aload_n (pc := 61) 0 dX7_rule_61 rfl rfl ?_
    refine am_getI (pc := 62) (k := 10) cl7 sh30 (by decide) (by decide) f7_38 rfl dX7_rule_62 ?_
    exact h
  · replace h := h.2 c
    refine am_iload_n (pc := 57) 2 dX7_rule_57 rfl rfl ?_
    refine am_goto (pc := 58) 65 dX7_rule_58 (by decide) ?_
    exact h
set_option maxRecDepth 100000 in
set_option maxHeartbeats 4000000 in
theorem sg7_rule_65 {D : Nat} {mem : am_Mem} {Q : Option Value → am_Mem → Prop} {v1 : Int32} {v2 : Int32} {v3 : Int32} {s0 : Int32} (h : (¬ v1 = 1 → Q (some (.int v3)) (am_set (am_set mem 30 10 s0) 30 11 ((am_set mem 30 10 s0) 30 11))) ∧ (v1 = 1 → Q (some (.int v3)) (am_set (am_set mem 30 10 s0) 30 11 v2))) : am_J m7_rule (D + 1) 65 [.ref 30, .int v1, .int v2, .int v3] [.int s0, .ref 30] mem Q := by
  refine am_putI (pc := 65) (k := 10) cl7 sh30 (by decide) (by decide) f7_38 rfl rfl rfl dX7_rule_65 ?_
  refine am_aload_n (pc := 68) 0 dX7_rule_68 rfl rfl ?_
  refine am_iload_n (pc := 69) 1 dX7_rule_69 rfl rfl ?_
  refine am_iconst (pc := 70) (v := 1) dX7_rule_70 rfl ?_
  refine am_icmp_ne (pc := 71) 78 dX7_rule_71 (by decide) (fun c => ?_) (fun c => ?_)
  · replace h := h.1 c
    refine am_aload_n (pc := 78) 0 dX7_rule_78 rfl rfl ?_
    refine am_getI (pc := 79) (k := 11) cl7 sh30 (by decide) (by decide) f7_102 rfl dX7_rule_79 ?_
    refine am_putI (pc := 82) (k := 11) cl7 sh30 (by decide) (by decide) f7_102 rfl rfl rfl dX7_rule_82 ?_
    refine am_iload_n (pc := 85) 3 dX7_rule_85 rfl rfl ?_
    exact am_ireturn rfl dX7_rule_86 h
  · replace h := h.2 c
    refine am_iload_n (pc := 74) 2 dX7_rule_74 rfl rfl ?_
    refine am_goto (pc := 75) 82 dX7_rule_75 (by decide) ?_
    refine am_putI (pc := 82) (k := 11) cl7 sh30 (by decide) (by decide) f7_102 rfl rfl rfl dX7_rule_82 ?_
    refine am_iload_n (pc := 85) 3 dX7_rule_85 rfl rfl ?_
    exact am_ireturn rfl dX7_rule_86 h
set_option maxRecDepth 100000 in
set_option maxHeartbeats 4000000 in
theorem sg7_boxed_0 {D : Nat} {mem : am_Mem} {Q : Option Value → am_Mem → Prop} {v1 : Int32} (h : (1 ≤ ((v1 * (mem 30 10)) / 10) → Q (some (.int ((v1 * (mem 30 10)) / 10))) mem) ∧ (¬ 1 ≤ ((v1 * (mem 30 10)) / 10) → Q (some (.int 1)) mem)) : am_J m7_boxed D 0 [.ref 30, .int v1, .null] [] mem Q := by
  refine am_iload_n (pc := 0) 1 dX7_boxed_0 rfl rfl ?_
  refine am_aload_n (pc := 1) 0 dX7_boxed_1 rfl rfl ?_
  refine am_getI (pc := 2) (k := 10) cl7 sh30 (by decide) (by decide) f7_38 rfl dX7_boxed_2 ?_
  refine am_imul (pc := 5) dX7_boxed_5 ?_
  refine am_bipush (pc := 6) (v := 10) dX7_boxed_6 rfl ?_
  refine am_idiv (pc := 8) dX7_boxed_8 (by decide) ?_
  refine am_istoreE_n (pc := 9) 2 (loc' := [.ref 30, .int v1, .int ((v1 * (mem 30 10)) / 10)]) dX7_boxed_9 rfl (by decide) rfl rfl ?_
  refine am_iload_n (pc := 10) 2 dX7_boxed_10 rfl rfl ?_
  refine am_iconst (pc := 11) (v := 1) dX7_boxed_11 rfl ?_
  refine am_icmp_ge (pc := 12) 19 dX7_boxed_12 (by decide) (fun c => ?_) (fun c => ?_)
  · replace h := h.1 c
    refine am_iload_n (pc := 19) 2 dX7_boxed_19 rfl rfl ?_
    exact am_ireturn rfl dX7_boxed_20 h
  · replace h := h.2 c
    refine am_iconst (pc := 15) (v := 1) dX7_boxed_15 rfl ?_
    refine am_goto (pc := 16) 20 dX7_boxed_16 (by decide) ?_
    exact am_ireturn rfl dX7_boxed_20 h
set_option maxRecDepth 100000 in
set_option maxHeartbeats 4000000 in
theorem sg7_about_0 {D : Nat} {mem : am_Mem} {Q : Option Value → am_Mem → Prop} {v1 : Int32} {v2 : Int32} (h : am_Ci m7_isSite D [.ref 30, .int v1] mem (fun r_1 mem_1 => (¬ r_1 = 0 → (v2.toInt = 0 → vp_in v1 8 ∧ (Q (some (.int (mem_1 31 v1.toNatClampNeg))) mem_1)) ∧ (v2.toInt = 1 → vp_in v1 8 ∧ (Q (some (.int (mem_1 32 v1.toNatClampNeg))) mem_1)) ∧ (v2.toInt = 2 → vp_in v1 8 ∧ (Q (some (.int (mem_1 33 v1.toNatClampNeg))) mem_1)) ∧ (v2.toInt = 3 → vp_in v1 8 ∧ (Q (some (.int (mem_1 34 v1.toNatClampNeg))) mem_1)) ∧ (v2.toInt = 4 → vp_in v1 8 ∧ (Q (some (.int (mem_1 35 v1.toNatClampNeg))) mem_1)) ∧ (v2.toInt = 5 → vp_in v1 8 ∧ (am_Ci m7_boxed D [.ref 30, .int (mem_1 33 v1.toNatClampNeg)] mem_1 (fun r_2 mem_2 => Q (some (.int r_2)) mem_2))) ∧ (v2.toInt = 6 → vp_in v1 8 ∧ (am_Ci m7_boxed D [.ref 30, .int (mem_1 34 v1.toNatClampNeg)] mem_1 (fun r_3 mem_3 => Q (some (.int r_3)) mem_3))) ∧ ((v2.toInt < 0 ∨ 6 < v2.toInt) → Q (some (.int (-2))) mem_1)) ∧ (r_1 = 0 → Q (some (.int (-1))) mem_1))) : am_J m7_about (D + 1) 0 [.ref 30, .int v1, .int v2] [] mem Q := by
  refine am_aload_n (pc := 0) 0 dX7_about_0 rfl rfl ?_
  refine am_iload_n (pc := 1) 1 dX7_about_1 rfl rfl ?_
  refine am_callV (pc := 2) m7_isSite D 1 [.int v1] (rest := []) ok7_isSite (by omega) rfl rfl sh30 (by decide) rfl l7_93 in7_isSite se7_isSite (Nat.le_of_ble_eq_true rfl) dX7_about_2 ?_
  refine am_Ci.use h (fun r_1 mem_1 h => ?_)
  show am_J m7_about (D + 1) 5 [.ref 30, .int v1, .int v2] [.int r_1] mem_1 Q
  refine am_if_ne (pc := 5) 10 dX7_about_5 (by decide) (fun c => ?_) (fun c => ?_)
  · replace h := h.1 c
    refine am_iload_n (pc := 10) 2 dX7_about_10 rfl rfl ?_
    refine am_table (pc := 11) dX7_about_11 109 (by decide) [52, 59, 66, 73, 80, 87, 98] (by decide) (by decide) (fun j t ht hx => ?_) (fun hx => ?_)
    · match j, ht with
      | 0, ht =>
        cases ht
        replace h := h.1 hx
        refine am_aload_n (pc := 52) 0 dX7_about_52 rfl rfl ?_
        refine am_getR (pc := 53) (k := 3) cl7 sh30 (by decide) (by decide) f7_16 rfl dX7_about_53 ?_
        refine am_iload_n (pc := 56) 1 dX7_about_56 rfl rfl ?_
        refine am_iald (pc := 57) sh31 (by decide) h.1 dX7_about_57 ?_
        replace h := h.2
        exact am_ireturn rfl dX7_about_58 h
      | 1, ht =>
        cases ht
        replace h := h.2.1 hx
        refine am_aload_n (pc := 59) 0 dX7_about_59 rfl rfl ?_
        refine am_getR (pc := 60) (k := 4) cl7 sh30 (by decide) (by decide) f7_20 rfl dX7_about_60 ?_
        refine am_iload_n (pc := 63) 1 dX7_about_63 rfl rfl ?_
        refine am_iald (pc := 64) sh32 (by decide) h.1 dX7_about_64 ?_
        replace h := h.2
        exact am_ireturn rfl dX7_about_65 h
      | 2, ht =>
        cases ht
        replace h := h.2.2.1 hx
        refine am_aload_n (pc := 66) 0 dX7_about_66 rfl rfl ?_
        refine am_getR (pc := 67) (k := 5) cl7 sh30 (by decide) (by decide) f7_23 rfl dX7_about_67 ?_
        refine am_iload_n (pc := 70) 1 dX7_about_70 rfl rfl ?_
        refine am_iald (pc := 71) sh33 (by decide) h.1 dX7_about_71 ?_
        replace h := h.2
        exact am_ireturn rfl dX7_about_72 h
      | 3, ht =>
        cases ht
        replace h := h.2.2.2.1 hx
        refine am_aload_n (pc := 73) 0 dX7_about_73 rfl rfl ?_
        refine am_getR (pc := 74) (k := 6) cl7 sh30 (by decide) (by decide) f7_26 rfl dX7_about_74 ?_
        refine am_iload_n (pc := 77) 1 dX7_about_77 rfl rfl ?_
        refine am_iald (pc := 78) sh34 (by decide) h.1 dX7_about_78 ?_
        replace h := h.2
        exact am_ireturn rfl dX7_about_79 h
      | 4, ht =>
        cases ht
        replace h := h.2.2.2.2.1 hx
        refine am_aload_n (pc := 80) 0 dX7_about_80 rfl rfl ?_
        refine am_getR (pc := 81) (k := 7) cl7 sh30 (by decide) (by decide) f7_29 rfl dX7_about_81 ?_
        refine am_iload_n (pc := 84) 1 dX7_about_84 rfl rfl ?_
        refine am_iald (pc := 85) sh35 (by decide) h.1 dX7_about_85 ?_
        replace h := h.2
        exact am_ireturn rfl dX7_about_86 h
      | 5, ht =>
        cases ht
        replace h := h.2.2.2.2.2.1 hx
        refine am_aload_n (pc := 87) 0 dX7_about_87 rfl rfl ?_
        refine am_aload_n (pc := 88) 0 dX7_about_88 rfl rfl ?_
        refine am_getR (pc := 89) (k := 5) cl7 sh30 (by decide) (by decide) f7_23 rfl dX7_about_89 ?_
        refine am_iload_n (pc := 92) 1 dX7_about_92 rfl rfl ?_
        refine am_iald (pc := 93) sh33 (by decide) h.1 dX7_about_93 ?_
        replace h := h.2
        refine am_callV (pc := 94) m7_boxed D 1 [.int (mem_1 33 v1.toNatClampNeg)] (rest := []) ok7_boxed (by omega) rfl rfl sh30 (by decide) rfl l7_105 in7_boxed se7_boxed (Nat.le_of_ble_eq_true rfl) dX7_about_94 ?_
        refine am_Ci.use h (fun r_2 mem_2 h => ?_)
        show am_J m7_about (D + 1) 97 [.ref 30, .int v1, .int v2] [.int r_2] mem_2 Q
        exact am_ireturn rfl dX7_about_97 h
      | 6, ht =>
        cases ht
        replace h := h.2.2.2.2.2.2.1 hx
        refine am_aload_n (pc := 98) 0 dX7_about_98 rfl rfl ?_
        refine am_aload_n (pc := 99) 0 dX7_about_99 rfl rfl ?_
        refine am_getR (pc := 100) (k := 6) cl7 sh30 (by decide) (by decide) f7_26 rfl dX7_about_100 ?_
        refine am_iload_n (pc := 103) 1 dX7_about_103 rfl rfl ?_
        refine am_iald (pc := 104) sh34 (by decide) h.1 dX7_about_104 ?_
        replace h := h.2
        refine am_callV (pc := 105) m7_boxed D 1 [.int (mem_1 34 v1.toNatClampNeg)] (rest := []) ok7_boxed (by omega) rfl rfl sh30 (by decide) rfl l7_105 in7_boxed se7_boxed (Nat.le_of_ble_eq_true rfl) dX7_about_105 ?_
        refine am_Ci.use h (fun r_3 mem_3 h => ?_)
        show am_J m7_about (D + 1) 108 [.ref 30, .int v1, .int v2] [.int r_3] mem_3 Q
        exact am_ireturn rfl dX7_about_108 h
      | j + 7, ht => simp at ht
    · replace h := h.2.2.2.2.2.2.2 hx
      refine am_bipush (pc := 109) (v := -2) dX7_about_109 rfl ?_
      exact am_ireturn rfl dX7_about_111 h
  · replace h := h.2 c
    refine am_iconst (pc := 8) (v := -1) dX7_about_8 rfl ?_
    exact am_ireturn rfl dX7_about_9 h
set_option maxRecDepth 100000 in
set_option maxHeartbeats 4000000 in
theorem sg7_left_0 {D : Nat} {mem : am_Mem} {Q : Option Value → am_Mem → Prop} {v1 : Int32} {v2 : Int32} (h : vp_in v1 8 ∧ ((v2 = 1 → am_J m7_left (D + 1) 21 [.ref 30, .int v1, .null] [.int ((mem 31 v1.toNatClampNeg) * (mem 30 12))] mem Q) ∧ (¬ v2 = 1 → (¬ v2 = 2 → Q (some (.int (((mem 31 v1.toNatClampNeg) * (mem 30 12)) - (0 : Int32)))) mem) ∧ (v2 = 2 → am_J m7_left (D + 1) 21 [.ref 30, .int v1, .null] [.int ((mem 31 v1.toNatClampNeg) * (mem 30 12))] mem Q)))) : am_J m7_left (D + 1) 0 [.ref 30, .int v1, .int v2] [] mem Q := by
  refine am_aload_n (pc := 0) 0 dX7_left_0 rfl rfl ?_
  refine am_getR (pc := 1) (k := 3) cl7 sh30 (by decide) (by decide) f7_16 rfl dX7_left_1 ?_
  refine am_iload_n (pc := 4) 1 dX7_left_4 rfl rfl ?_
  refine am_iald (pc := 5) sh31 (by decide) h.1 dX7_left_5 ?_
  replace h := h.2
  refine am_aload_n (pc := 6) 0 dX7_left_6 rfl rfl ?_
  refine am_getI (pc := 7) (k := 12) cl7 sh30 (by decide) (by decide) f7_41 rfl dX7_left_7 ?_
  refine am_imul (pc := 10) dX7_left_10 ?_
  refine am_iload_n (pc := 11) 2 dX7_left_11 rfl rfl ?_
  refine am_iconst (pc := 12) (v := 1) dX7_left_12 rfl ?_
  refine am_icmp_eq (pc := 13) 21 dX7_left_13 (by decide) (fun c => ?_) (fun c => ?_)
  · replace h := h.1 c
    exact am_drop [2] h
  · replace h := h.2 c
    refine am_iload_n (pc := 16) 2 dX7_left_16 rfl rfl ?_
    refine am_iconst (pc := 17) (v := 2) dX7_left_17 rfl ?_
    refine am_icmp_ne (pc := 18) 34 dX7_left_18 (by decide) (fun c => ?_) (fun c => ?_)
    · replace h := h.1 c
      refine am_iconst (pc := 34) (v := 0) dX7_left_34 rfl ?_
      refine am_isub (pc := 35) dX7_left_35 ?_
      exact am_ireturn rfl dX7_left_36 h
    · replace h := h.2 c
      exact am_drop [2] h
set_option maxRecDepth 100000 in
set_option maxHeartbeats 4000000 in
theorem sg7_left_21 {D : Nat} {mem : am_Mem} {Q : Option Value → am_Mem → Prop} {v1 : Int32} {s0 : Int32} (h : vp_in v1 8 ∧ (am_Ci m7_boxed D [.ref 30, .int (mem 33 v1.toNatClampNeg)] mem (fun r_1 mem_1 => Q (some (.int (s0 - r_1))) mem_1))) : am_J m7_left (D + 1) 21 [.ref 30, .int v1, .null] [.int s0] mem Q := by
  refine am_aload_n (pc := 21) 0 dX7_left_21 rfl rfl ?_
  refine am_aload_n (pc := 22) 0 dX7_left_22 rfl rfl ?_
  refine am_getR (pc := 23) (k := 5) cl7 sh30 (by decide) (by decide) f7_23 rfl dX7_left_23 ?_
  refine am_iload_n (pc := 26) 1 dX7_left_26 rfl rfl ?_
  refine am_iald (pc := 27) sh33 (by decide) h.1 dX7_left_27 ?_
  replace h := h.2
  refine am_callV (pc := 28) m7_boxed D 1 [.int (mem 33 v1.toNatClampNeg)] (rest := [.int s0]) ok7_boxed (by omega) rfl rfl sh30 (by decide) rfl l7_105 in7_boxed se7_boxed (Nat.le_of_ble_eq_true rfl) dX7_left_28 ?_
  refine am_Ci.use h (fun r_1 mem_1 h => ?_)
  show am_J m7_left (D + 1) 31 [.ref 30, .int v1, .null] [.int r_1, .int s0] mem_1 Q
  refine am_goto (pc := 31) 35 dX7_left_31 (by decide) ?_
  refine am_isub (pc := 35) dX7_left_35 ?_
  exact am_ireturn rfl dX7_left_36 h
set_option maxRecDepth 100000 in
set_option maxHeartbeats 4000000 in
theorem sg7_low_0 {D : Nat} {mem : am_Mem} {Q : Option Value → am_Mem → Prop} {v1 : Int32} {v2 : Int32} (h : vp_in v1 8 ∧ ((v2 ≤ 1 → Q (some (.int (((mem 32 v1.toNatClampNeg) * (mem 30 12)) - (0 : Int32)))) mem) ∧ (¬ v2 ≤ 1 → vp_in v1 8 ∧ (am_Ci m7_boxed D [.ref 30, .int (mem 34 v1.toNatClampNeg)] mem (fun r_1 mem_1 => Q (some (.int (((mem 32 v1.toNatClampNeg) * (mem 30 12)) - r_1))) mem_1))))) : am_J m7_low (D + 1) 0 [.ref 30, .int v1, .int v2] [] mem Q := by
  refine am_aload_n (pc := 0) 0 dX7_low_0 rfl rfl ?_
  refine am_getR (pc := 1) (k := 4) cl7 sh30 (by decide) (by decide) f7_20 rfl dX7_low_1 ?_
  refine am_iload_n (pc := 4) 1 dX7_low_4 rfl rfl ?_
  refine am_iald (pc := 5) sh32 (by decide) h.1 dX7_low_5 ?_
  replace h := h.2
  refine am_aload_n (pc := 6) 0 dX7_low_6 rfl rfl ?_
  refine am_getI (pc := 7) (k := 12) cl7 sh30 (by decide) (by decide) f7_41 rfl dX7_low_7 ?_
  refine am_imul (pc := 10) dX7_low_10 ?_
  refine am_iload_n (pc := 11) 2 dX7_low_11 rfl rfl ?_
  refine am_iconst (pc := 12) (v := 1) dX7_low_12 rfl ?_
  refine am_icmp_le (pc := 13) 29 dX7_low_13 (by decide) (fun c => ?_) (fun c => ?_)
  · replace h := h.1 c
    refine am_iconst (pc := 29) (v := 0) dX7_low_29 rfl ?_
    refine am_isub (pc := 30) dX7_low_30 ?_
    exact am_ireturn rfl dX7_low_31 h
  · replace h := h.2 c
    refine am_aload_n (pc := 16) 0 dX7_low_16 rfl rfl ?_
    refine am_aload_n (pc := 17) 0 dX7_low_17 rfl rfl ?_
    refine am_getR (pc := 18) (k := 6) cl7 sh30 (by decide) (by decide) f7_26 rfl dX7_low_18 ?_
    refine am_iload_n (pc := 21) 1 dX7_low_21 rfl rfl ?_
    refine am_iald (pc := 22) sh34 (by decide) h.1 dX7_low_22 ?_
    replace h := h.2
    refine am_callV (pc := 23) m7_boxed D 1 [.int (mem 34 v1.toNatClampNeg)] (rest := [.int ((mem 32 v1.toNatClampNeg) * (mem 30 12))]) ok7_boxed (by omega) rfl rfl sh30 (by decide) rfl l7_105 in7_boxed se7_boxed (Nat.le_of_ble_eq_true rfl) dX7_low_23 ?_
    refine am_Ci.use h (fun r_1 mem_1 h => ?_)
    show am_J m7_low (D + 1) 26 [.ref 30, .int v1, .int v2] [.int r_1, .int ((mem 32 v1.toNatClampNeg) * (mem 30 12))] mem_1 Q
    refine am_goto (pc := 26) 30 dX7_low_26 (by decide) ?_
    refine am_isub (pc := 30) dX7_low_30 ?_
    exact am_ireturn rfl dX7_low_31 h
set_option maxRecDepth 100000 in
set_option maxHeartbeats 4000000 in
theorem sg7_isFree_0 {D : Nat} {mem : am_Mem} {Q : Option Value → am_Mem → Prop} {v1 : Int32} {v2 : Int32} (h : am_Ci m7_left D [.ref 30, .int v1, .int v2] mem (fun r_1 mem_1 => am_Ci m7_low D [.ref 30, .int v1, .int v2] mem_1 (fun r_2 mem_2 => vp_in v1 8 ∧ (am_Ci m7_boxed D [.ref 30, .int (mem_2 33 v1.toNatClampNeg)] mem_2 (fun r_3 mem_3 => vp_in v1 8 ∧ (am_Ci m7_boxed D [.ref 30, .int (mem_3 34 v1.toNatClampNeg)] mem_3 (fun r_4 mem_4 => vp_in v1 8 ∧ ((¬ (((mem_4 36 v1.toNatClampNeg) >>> (v2 &&& 31)) &&& (1 : Int32)) = 1 → am_J m7_isFree (D + 1) 99 [.ref 30, .int v1, .null, .int r_1, .int r_2, .int (r_1 + r_3), .int (r_2 + r_4), .null, .null, .null] [] mem_4 Q) ∧ ((((mem_4 36 v1.toNatClampNeg) >>> (v2 &&& 31)) &&& (1 : Int32)) = 1 → (r_1 < 0 → am_J m7_isFree (D + 1) 99 [.ref 30, .int v1, .null, .int r_1, .int r_2, .int (r_1 + r_3), .int (r_2 + r_4), .null, .null, .null] [] mem_4 Q) ∧ (¬ r_1 < 0 → (r_2 < 0 → am_J m7_isFree (D + 1) 99 [.ref 30, .int v1, .null, .int r_1, .int r_2, .int (r_1 + r_3), .int (r_2 + r_4), .null, .null, .null] [] mem_4 Q) ∧ (¬ r_2 < 0 → (((mem_4 30 0) * (mem_4 30 12)) < (r_1 + r_3) → am_J m7_isFree (D + 1) 99 [.ref 30, .int v1, .null, .int r_1, .int r_2, .int (r_1 + r_3), .int (r_2 + r_4), .null, .null, .null] [] mem_4 Q) ∧ (¬ ((mem_4 30 0) * (mem_4 30 12)) < (r_1 + r_3) → (((mem_4 30 1) * (mem_4 30 12)) < (r_2 + r_4) → am_J m7_isFree (D + 1) 99 [.ref 30, .int v1, .null, .int r_1, .int r_2, .int (r_1 + r_3), .int (r_2 + r_4), .null, .null, .null] [] mem_4 Q) ∧ (¬ ((mem_4 30 1) * (mem_4 30 12)) < (r_2 + r_4) → am_J m7_isFree (D + 1) 100 [.ref 30, .int v1, .null, .int r_1, .int r_2, .int (r_1 + r_3), .int (r_2 + r_4), .null, .null, .null] [.int 1] mem_4 Q))))))))))))) : am_J m7_isFree (D + 1) 0 [.ref 30, .int v1, .int v2, .null, .null, .null, .null, .null, .null, .null] [] mem Q := by
  refine am_aload_n (pc := 0) 0 dX7_isFree_0 rfl rfl ?_
  refine am_iload_n (pc := 1) 1 dX7_isFree_1 rfl rfl ?_
  refine am_iload_n (pc := 2) 2 dX7_isFree_2 rfl rfl ?_
  refine am_callV (pc := 3) m7_left D 2 [.int v1, .int v2] (rest := []) ok7_left (by omega) rfl rfl sh30 (by decide) rfl l7_109 in7_left se7_left (Nat.le_of_ble_eq_true rfl) dX7_isFree_3 ?_
  refine am_Ci.use h (fun r_1 mem_1 h => ?_)
  show am_J m7_isFree (D + 1) 6 [.ref 30, .int v1, .int v2, .null, .null, .null, .null, .null, .null, .null] [.int r_1] mem_1 Q
  refine am_istoreE_n (pc := 6) 3 (loc' := [.ref 30, .int v1, .int v2, .int r_1, .null, .null, .null, .null, .null, .null]) dX7_isFree_6 rfl (by decide) rfl rfl ?_
  refine am_aload_n (pc := 7) 0 dX7_isFree_7 rfl rfl ?_
  refine am_iload_n (pc := 8) 1 dX7_isFree_8 rfl rfl ?_
  refine am_iload_n (pc := 9) 2 dX7_isFree_9 rfl rfl ?_
  refine am_callV (pc := 10) m7_low D 2 [.int v1, .int v2] (rest := []) ok7_low (by omega) rfl rfl sh30 (by decide) rfl l7_113 in7_low se7_low (Nat.le_of_ble_eq_true rfl) dX7_isFree_10 ?_
  refine am_Ci.use h (fun r_2 mem_2 h => ?_)
  show am_J m7_isFree (D + 1) 13 [.ref 30, .int v1, .int v2, .int r_1, .null, .null, .null, .null, .null, .null] [.int r_2] mem_2 Q
  refine am_istoreE (pc := 13) (loc' := [.ref 30, .int v1, .int v2, .int r_1, .int r_2, .null, .null, .null, .null, .null]) dX7_isFree_13 (by decide) rfl rfl ?_
  refine am_iload_n (pc := 15) 3 dX7_isFree_15 rfl rfl ?_
  refine am_aload_n (pc := 16) 0 dX7_isFree_16 rfl rfl ?_
  refine am_aload_n (pc := 17) 0 dX7_isFree_17 rfl rfl ?_
  refine am_getR (pc := 18) (k := 5) cl7 sh30 (by decide) (by decide) f7_23 rfl dX7_isFree_18 ?_
  refine am_iload_n (pc := 21) 1 dX7_isFree_21 rfl rfl ?_
  refine am_iald (pc := 22) sh33 (by decide) h.1 dX7_isFree_22 ?_
  replace h := h.2
  refine am_callV (pc := 23) m7_boxed D 1 [.int (mem_2 33 v1.toNatClampNeg)] (rest := [.int r_1]) ok7_boxed (by omega) rfl rfl sh30 (by decide) rfl l7_105 in7_boxed se7_boxed (Nat.le_of_ble_eq_true rfl) dX7_isFree_23 ?_
  refine am_Ci.use h (fun r_3 mem_3 h => ?_)
  show am_J m7_isFree (D + 1) 26 [.ref 30, .int v1, .int v2, .int r_1, .int r_2, .null, .null, .null, .null, .null] [.int r_3, .int r_1] mem_3 Q
  refine am_iadd (pc := 26) dX7_isFree_26 ?_
  refine am_istoreE (pc := 27) (loc' := [.ref 30, .int v1, .int v2, .int r_1, .int r_2, .int (r_1 + r_3), .null, .null, .null, .null]) dX7_isFree_27 (by decide) rfl rfl ?_
  refine am_iload (pc := 29) dX7_isFree_29 rfl ?_
  refine am_aload_n (pc := 31) 0 dX7_isFree_31 rfl rfl ?_
  refine am_aload_n (pc := 32) 0 dX7_isFree_32 rfl rfl ?_
  refine am_getR (pc := 33) (k := 6) cl7 sh30 (by decide) (by decide) f7_26 rfl dX7_isFree_33 ?_
  refine am_iload_n (pc := 36) 1 dX7_isFree_36 rfl rfl ?_
  refine am_iald (pc := 37) sh34 (by decide) h.1 dX7_isFree_37 ?_
  replace h := h.2
  refine am_callV (pc := 38) m7_boxed D 1 [.int (mem_3 34 v1.toNatClampNeg)] (rest := [.int r_2]) ok7_boxed (by omega) rfl rfl sh30 (by decide) rfl l7_105 in7_boxed se7_boxed (Nat.le_of_ble_eq_true rfl) dX7_isFree_38 ?_
  refine am_Ci.use h (fun r_4 mem_4 h => ?_)
  show am_J m7_isFree (D + 1) 41 [.ref 30, .int v1, .int v2, .int r_1, .int r_2, .int (r_1 + r_3), .null, .null, .null, .null] [.int r_4, .int r_2] mem_4 Q
  refine am_iadd (pc := 41) dX7_isFree_41 ?_
  refine am_istoreE (pc := 42) (loc' := [.ref 30, .int v1, .int v2, .int r_1, .int r_2, .int (r_1 + r_3), .int (r_2 + r_4), .null, .null, .null]) dX7_isFree_42 (by decide) rfl rfl ?_
  refine am_aload_n (pc := 44) 0 dX7_isFree_44 rfl rfl ?_
  refine am_getR (pc := 45) (k := 8) cl7 sh30 (by decide) (by decide) f7_32 rfl dX7_isFree_45 ?_
  refine am_iload_n (pc := 48) 1 dX7_isFree_48 rfl rfl ?_
  refine am_iald (pc := 49) sh36 (by decide) h.1 dX7_isFree_49 ?_
  replace h := h.2
  refine am_iload_n (pc := 50) 2 dX7_isFree_50 rfl rfl ?_
  refine am_ishr (pc := 51) dX7_isFree_51 ?_
  refine am_iconst (pc := 52) (v := 1) dX7_isFree_52 rfl ?_
  refine am_iand (pc := 53) dX7_isFree_53 ?_
  refine am_iconst (pc := 54) (v := 1) dX7_isFree_54 rfl ?_
  refine am_icmp_ne (pc := 55) 99 dX7_isFree_55 (by decide) (fun c => ?_) (fun c => ?_)
  · replace h := h.1 c
    exact am_drop [2] h
  · replace h := h.2 c
    refine am_iload_n (pc := 58) 3 dX7_isFree_58 rfl rfl ?_
    refine am_if_lt (pc := 59) 99 dX7_isFree_59 (by decide) (fun c => ?_) (fun c => ?_)
    · replace h := h.1 c
      exact am_drop [2] h
    · replace h := h.2 c
      refine am_iload (pc := 62) dX7_isFree_62 rfl ?_
      refine am_if_lt (pc := 64) 99 dX7_isFree_64 (by decide) (fun c => ?_) (fun c => ?_)
      · replace h := h.1 c
        exact am_drop [2] h
      · replace h := h.2 c
        refine am_iload (pc := 67) dX7_isFree_67 rfl ?_
        refine am_aload_n (pc := 69) 0 dX7_isFree_69 rfl rfl ?_
        refine am_getI (pc := 70) (k := 0) cl7 sh30 (by decide) (by decide) f7_7 rfl dX7_isFree_70 ?_
        refine am_aload_n (pc := 73) 0 dX7_isFree_73 rfl rfl ?_
        refine am_getI (pc := 74) (k := 12) cl7 sh30 (by decide) (by decide) f7_41 rfl dX7_isFree_74 ?_
        refine am_imul (pc := 77) dX7_isFree_77 ?_
        refine am_icmp_gt (pc := 78) 99 dX7_isFree_78 (by decide) (fun c => ?_) (fun c => ?_)
        · replace h := h.1 c
          exact am_drop [2] h
        · replace h := h.2 c
          refine am_iload (pc := 81) dX7_isFree_81 rfl ?_
          refine am_aload_n (pc := 83) 0 dX7_isFree_83 rfl rfl ?_
          refine am_getI (pc := 84) (k := 1) cl7 sh30 (by decide) (by decide) f7_13 rfl dX7_isFree_84 ?_
          refine am_aload_n (pc := 87) 0 dX7_isFree_87 rfl rfl ?_
          refine am_getI (pc := 88) (k := 12) cl7 sh30 (by decide) (by decide) f7_41 rfl dX7_isFree_88 ?_
          refine am_imul (pc := 91) dX7_isFree_91 ?_
          refine am_icmp_gt (pc := 92) 99 dX7_isFree_92 (by decide) (fun c => ?_) (fun c => ?_)
          · replace h := h.1 c
            exact am_drop [2] h
          · replace h := h.2 c
            refine am_iconst (pc := 95) (v := 1) dX7_isFree_95 rfl ?_
            refine am_goto (pc := 96) 100 dX7_isFree_96 (by decide) ?_
            exact am_drop [2] h
set_option maxRecDepth 100000 in
set_option maxHeartbeats 4000000 in
theorem sg7_isFree_99 {D : Nat} {mem : am_Mem} {Q : Option Value → am_Mem → Prop} {v1 : Int32} {v3 : Int32} {v4 : Int32} {v5 : Int32} {v6 : Int32} (h : am_J m7_isFree (D + 1) 100 [.ref 30, .int v1, .null, .int v3, .int v4, .int v5, .int v6, .null, .null, .null] [.int 0] mem Q) : am_J m7_isFree (D + 1) 99 [.ref 30, .int v1, .null, .int v3, .int v4, .int v5, .int v6, .null, .null, .null] [] mem Q := by
  refine am_iconst (pc := 99) (v := 0) dX7_isFree_99 rfl ?_
  exact h
set_option maxRecDepth 100000 in
set_option maxHeartbeats 4000000 in
theorem sg7_isFree_100 {D : Nat} {mem : am_Mem} {Q : Option Value → am_Mem → Prop} {v1 : Int32} {v3 : Int32} {v4 : Int32} {v5 : Int32} {v6 : Int32} {s0 : Int32} (h : am_J m7_isFree (D + 1) 105 [.ref 30, .int v1, .null, .int v3, .int v4, .int v5, .int v6, .int s0, .int 0, .null] [] mem Q) : am_J m7_isFree (D + 1) 100 [.ref 30, .int v1, .null, .int v3, .int v4, .int v5, .int v6, .null, .null, .null] [.int s0] mem Q := by
  refine am_istoreE (pc := 100) (loc' := [.ref 30, .int v1, .null, .int v3, .int v4, .int v5, .int v6, .int s0, .null, .null]) dX7_isFree_100 (by decide) rfl rfl ?_
  refine am_iconst (pc := 102) (v := 0) dX7_isFree_102 rfl ?_
  refine am_istoreE (pc := 103) (loc' := [.ref 30, .int v1, .null, .int v3, .int v4, .int v5, .int v6, .int s0, .int 0, .null]) dX7_isFree_103 (by decide) rfl rfl ?_
  exact h
set_option maxRecDepth 100000 in
set_option maxHeartbeats 4000000 in
theorem sg7_isFree_105 {D : Nat} {mem : am_Mem} {Q : Option Value → am_Mem → Prop} {v1 : Int32} {v3 : Int32} {v4 : Int32} {v5 : Int32} {v6 : Int32} {v7 : Int32} {v8 : Int32} (h : ((mem 30 2) ≤ v8 → (v7 = 0 ∨ v7 = 1) ∧ Q (some (.int v7)) mem) ∧ (¬ (mem 30 2) ≤ v8 → (v7 = 0 → (v7 = 0 ∨ v7 = 1) ∧ Q (some (.int v7)) mem) ∧ (¬ v7 = 0 → (v8 = v1 → am_J m7_isFree (D + 1) 141 [.ref 30, .int v1, .null, .int v3, .int v4, .int v5, .int v6, .null, .int v8, .null] [] mem Q) ∧ (¬ v8 = v1 → (¬ (((mem 30 13) >>> (v8 &&& 31)) &&& (1 : Int32)) = 0 → am_J m7_isFree (D + 1) 141 [.ref 30, .int v1, .null, .int v3, .int v4, .int v5, .int v6, .null, .int v8, .null] [] mem Q) ∧ ((((mem 30 13) >>> (v8 &&& 31)) &&& (1 : Int32)) = 0 → am_J m7_isFree (D + 1) 142 [.ref 30, .int v1, .null, .int v3, .int v4, .int v5, .int v6, .null, .int v8, .null] [.int 1] mem Q))))) : am_J m7_isFree (D + 1) 105 [.ref 30, .int v1, .null, .int v3, .int v4, .int v5, .int v6, .int v7, .int v8, .null] [] mem Q := by
  refine am_iload (pc := 105) dX7_isFree_105 rfl ?_
  refine am_aload_n (pc := 107) 0 dX7_isFree_107 rfl rfl ?_
  refine am_getI (pc := 108) (k := 2) cl7 sh30 (by decide) (by decide) f7_74 rfl dX7_isFree_108 ?_
  refine am_icmp_ge (pc := 111) 219 dX7_isFree_111 (by decide) (fun c => ?_) (fun c => ?_)
  · replace h := h.1 c
    refine am_iload (pc := 219) dX7_isFree_219 rfl ?_
    exact am_zreturn rfl h.1 dX7_isFree_221 h.2
  · replace h := h.2 c
    refine am_iload (pc := 114) dX7_isFree_114 rfl ?_
    refine am_if_eq (pc := 116) 219 dX7_isFree_116 (by decide) (fun c => ?_) (fun c => ?_)
    · replace h := h.1 c
      refine am_iload (pc := 219) dX7_isFree_219 rfl ?_
      exact am_zreturn rfl h.1 dX7_isFree_221 h.2
    · replace h := h.2 c
      refine am_iload (pc := 119) dX7_isFree_119 rfl ?_
      refine am_iload_n (pc := 121) 1 dX7_isFree_121 rfl rfl ?_
      refine am_icmp_eq (pc := 122) 141 dX7_isFree_122 (by decide) (fun c => ?_) (fun c => ?_)
      · replace h := h.1 c
        exact am_drop [7] h
      · replace h := h.2 c
        refine am_aload_n (pc := 125) 0 dX7_isFree_125 rfl rfl ?_
        refine am_getI (pc := 126) (k := 13) cl7 sh30 (by decide) (by decide) f7_116 rfl dX7_isFree_126 ?_
        refine am_iload (pc := 129) dX7_isFree_129 rfl ?_
        refine am_ishr (pc := 131) dX7_isFree_131 ?_
        refine am_iconst (pc := 132) (v := 1) dX7_isFree_132 rfl ?_
        refine am_iand (pc := 133) dX7_isFree_133 ?_
        refine am_if_ne (pc := 134) 141 dX7_isFree_134 (by decide) (fun c => ?_) (fun c => ?_)
        · replace h := h.1 c
          exact am_drop [7] h
        · replace h := h.2 c
          refine am_iconst (pc := 137) (v := 1) dX7_isFree_137 rfl ?_
          refine am_goto (pc := 138) 142 dX7_isFree_138 (by decide) ?_
          exact am_drop [7] h
set_option maxRecDepth 100000 in
set_option maxHeartbeats 4000000 in
theorem sg7_isFree_141 {D : Nat} {mem : am_Mem} {Q : Option Value → am_Mem → Prop} {v1 : Int32} {v3 : Int32} {v4 : Int32} {v5 : Int32} {v6 : Int32} {v8 : Int32} (h : am_J m7_isFree (D + 1) 142 [.ref 30, .int v1, .null, .int v3, .int v4, .int v5, .int v6, .null, .int v8, .null] [.int 0] mem Q) : am_J m7_isFree (D + 1) 141 [.ref 30, .int v1, .null, .int v3, .int v4, .int v5, .int v6, .null, .int v8, .null] [] mem Q := by
  refine am_iconst (pc := 141) (v := 0) dX7_isFree_141 rfl ?_
  exact h
set_option maxRecDepth 100000 in
set_option maxHeartbeats 4000000 in
theorem sg7_isFree_142 {D : Nat} {mem : am_Mem} {Q : Option Value → am_Mem → Prop} {v1 : Int32} {v3 : Int32} {v4 : Int32} {v5 : Int32} {v6 : Int32} {v8 : Int32} {s0 : Int32} (h : (s0 = 0 → am_J m7_isFree (D + 1) 206 [.ref 30, .int v1, .null, .int v3, .int v4, .int v5, .int v6, .null, .int v8, .null] [] mem Q) ∧ (¬ s0 = 0 → vp_in v8 8 ∧ (am_Ci m7_in D [.long (((mem 31 v8.toNatClampNeg) * (mem 30 12)).toInt64), .long ((v3 + (1 : Int32)).toInt64), .long ((v5 - (1 : Int32)).toInt64)] mem (fun r_1 mem_1 => (r_1 = 0 → am_J m7_isFree (D + 1) 206 [.ref 30, .int v1, .null, .int v3, .int v4, .int v5, .int v6, .null, .int v8, .null] [] mem_1 Q) ∧ (¬ r_1 = 0 → vp_in v8 8 ∧ (am_Ci m7_in D [.long (((mem_1 32 v8.toNatClampNeg) * (mem_1 30 12)).toInt64), .long ((v4 + (1 : Int32)).toInt64), .long ((v6 - (1 : Int32)).toInt64)] mem_1 (fun r_2 mem_2 => (¬ r_2 = 0 → am_J m7_isFree (D + 1) 211 [.ref 30, .int v1, .null, .int v3, .int v4, .int v5, .int v6, .null, .int v8, .null] [.int 0] mem_2 Q) ∧ (r_2 = 0 → am_J m7_isFree (D + 1) 206 [.ref 30, .int v1, .null, .int v3, .int v4, .int v5, .int v6, .null, .int v8, .null] [] mem_2 Q)))))))) : am_J m7_isFree (D + 1) 142 [.ref 30, .int v1, .null, .int v3, .int v4, .int v5, .int v6, .null, .int v8, .null] [.int s0] mem Q := by
  refine am_istoreE (pc := 142) (loc' := [.ref 30, .int v1, .null, .int v3, .int v4, .int v5, .int v6, .null, .int v8, .int s0]) dX7_isFree_142 (by decide) rfl rfl ?_
  refine am_iload (pc := 144) dX7_isFree_144 rfl ?_
  refine am_if_eq (pc := 146) 206 dX7_isFree_146 (by decide) (fun c => ?_) (fun c => ?_)
  · replace h := h.1 c
    exact am_drop [9] h
  · replace h := h.2 c
    refine am_aload_n (pc := 149) 0 dX7_isFree_149 rfl rfl ?_
    refine am_getR (pc := 150) (k := 3) cl7 sh30 (by decide) (by decide) f7_16 rfl dX7_isFree_150 ?_
    refine am_iload (pc := 153) dX7_isFree_153 rfl ?_
    refine am_iald (pc := 155) sh31 (by decide) h.1 dX7_isFree_155 ?_
    replace h := h.2
    refine am_aload_n (pc := 156) 0 dX7_isFree_156 rfl rfl ?_
    refine am_getI (pc := 157) (k := 12) cl7 sh30 (by decide) (by decide) f7_41 rfl dX7_isFree_157 ?_
    refine am_imul (pc := 160) dX7_isFree_160 ?_
    refine am_i2l (pc := 161) dX7_isFree_161 ?_
    refine am_iload_n (pc := 162) 3 dX7_isFree_162 rfl rfl ?_
    refine am_iconst (pc := 163) (v := 1) dX7_isFree_163 rfl ?_
    refine am_iadd (pc := 164) dX7_isFree_164 ?_
    refine am_i2l (pc := 165) dX7_isFree_165 ?_
    refine am_iload (pc := 166) dX7_isFree_166 rfl ?_
    refine am_iconst (pc := 168) (v := 1) dX7_isFree_168 rfl ?_
    refine am_isub (pc := 169) dX7_isFree_169 ?_
    refine am_i2l (pc := 170) dX7_isFree_170 ?_
    refine am_callS (pc := 171) m7_in D 3 [.long (((mem 31 v8.toNatClampNeg) * (mem 30 12)).toInt64), .long ((v3 + (1 : Int32)).toInt64), .long ((v5 - (1 : Int32)).toInt64)] (rest := []) ok7_in (by omega) rfl rfl l7_77 st7_in (Nat.le_of_ble_eq_true rfl) dX7_isFree_171 ?_
    refine am_Ci.use h (fun r_1 mem_1 h => ?_)
    show am_J m7_isFree (D + 1) 174 [.ref 30, .int v1, .null, .int v3, .int v4, .int v5, .int v6, .null, .int v8, .int s0] [.int r_1] mem_1 Q
    refine am_if_eq (pc := 174) 206 dX7_isFree_174 (by decide) (fun c => ?_) (fun c => ?_)
    · replace h := h.1 c
      exact am_drop [9] h
    · replace h := h.2 c
      refine am_aload_n (pc := 177) 0 dX7_isFree_177 rfl rfl ?_
      refine am_getR (pc := 178) (k := 4) cl7 sh30 (by decide) (by decide) f7_20 rfl dX7_isFree_178 ?_
      refine am_iload (pc := 181) dX7_isFree_181 rfl ?_
      refine am_iald (pc := 183) sh32 (by decide) h.1 dX7_isFree_183 ?_
      replace h := h.2
      refine am_aload_n (pc := 184) 0 dX7_isFree_184 rfl rfl ?_
      refine am_getI (pc := 185) (k := 12) cl7 sh30 (by decide) (by decide) f7_41 rfl dX7_isFree_185 ?_
      refine am_imul (pc := 188) dX7_isFree_188 ?_
      refine am_i2l (pc := 189) dX7_isFree_189 ?_
      refine am_iload (pc := 190) dX7_isFree_190 rfl ?_
      refine am_iconst (pc := 192) (v := 1) dX7_isFree_192 rfl ?_
      refine am_iadd (pc := 193) dX7_isFree_193 ?_
      refine am_i2l (pc := 194) dX7_isFree_194 ?_
      refine am_iload (pc := 195) dX7_isFree_195 rfl ?_
      refine am_iconst (pc := 197) (v := 1) dX7_isFree_197 rfl ?_
      refine am_isub (pc := 198) dX7_isFree_198 ?_
      refine am_i2l (pc := 199) dX7_isFree_199 ?_
      refine am_callS (pc := 200) m7_in D 3 [.long (((mem_1 32 v8.toNatClampNeg) * (mem_1 30 12)).toInt64), .long ((v4 + (1 : Int32)).toInt64), .long ((v6 - (1 : Int32)).toInt64)] (rest := []) ok7_in (by omega) rfl rfl l7_77 st7_in (Nat.le_of_ble_eq_true rfl) dX7_isFree_200 ?_
      refine am_Ci.use h (fun r_2 mem_2 h => ?_)
      show am_J m7_isFree (D + 1) 203 [.ref 30, .int v1, .null, .int v3, .int v4, .int v5, .int v6, .null, .int v8, .int s0] [.int r_2] mem_2 Q
      refine am_if_ne (pc := 203) 210 dX7_isFree_203 (by decide) (fun c => ?_) (fun c => ?_)
      · replace h := h.1 c
        refine am_iconst (pc := 210) (v := 0) dX7_isFree_210 rfl ?_
        exact am_drop [9] h
      · replace h := h.2 c
        exact am_drop [9] h
set_option maxRecDepth 100000 in
set_option maxHeartbeats 4000000 in
theorem sg7_isFree_206 {D : Nat} {mem : am_Mem} {Q : Option Value → am_Mem → Prop} {v1 : Int32} {v3 : Int32} {v4 : Int32} {v5 : Int32} {v6 : Int32} {v8 : Int32} (h : am_J m7_isFree (D + 1) 211 [.ref 30, .int v1, .null, .int v3, .int v4, .int v5, .int v6, .null, .int v8, .null] [.int 1] mem Q) : am_J m7_isFree (D + 1) 206 [.ref 30, .int v1, .null, .int v3, .int v4, .int v5, .int v6, .null, .int v8, .null] [] mem Q := by
  refine am_iconst (pc := 206) (v := 1) dX7_isFree_206 rfl ?_
  refine am_goto (pc := 207) 211 dX7_isFree_207 (by decide) ?_
  exact h
set_option maxRecDepth 100000 in
set_option maxHeartbeats 4000000 in
theorem sg7_isFree_211 {D : Nat} {mem : am_Mem} {Q : Option Value → am_Mem → Prop} {v1 : Int32} {v3 : Int32} {v4 : Int32} {v5 : Int32} {v6 : Int32} {v8 : Int32} {s0 : Int32} (h : am_J m7_isFree (D + 1) 105 [.ref 30, .int v1, .null, .int v3, .int v4, .int v5, .int v6, .int s0, .int (v8 + 1), .null] [] mem Q) : am_J m7_isFree (D + 1) 211 [.ref 30, .int v1, .null, .int v3, .int v4, .int v5, .int v6, .null, .int v8, .null] [.int s0] mem Q := by
  refine am_istoreE (pc := 211) (loc' := [.ref 30, .int v1, .null, .int v3, .int v4, .int v5, .int v6, .int s0, .int v8, .null]) dX7_isFree_211 (by decide) rfl rfl ?_
  refine am_iincE (pc := 213) (v := 1) (loc' := [.ref 30, .int v1, .null, .int v3, .int v4, .int v5, .int v6, .int s0, .int (v8 + 1), .null]) dX7_isFree_213 rfl rfl (by decide) rfl rfl ?_
  refine am_goto (pc := 216) 105 dX7_isFree_216 (by decide) ?_
  exact h
set_option maxRecDepth 100000 in
set_option maxHeartbeats 4000000 in
theorem sg7_clashes_0 {D : Nat} {mem : am_Mem} {Q : Option Value → am_Mem → Prop} {v1 : Int32} {v2 : Int32} {v3 : Int32} {v4 : Int32} (h : am_Ci m7_left D [.ref 30, .int v1, .int v2] mem (fun r_1 mem_1 => am_Ci m7_low D [.ref 30, .int v1, .int v2] mem_1 (fun r_2 mem_2 => am_Ci m7_left D [.ref 30, .int v3, .int v4] mem_2 (fun r_3 mem_3 => am_Ci m7_low D [.ref 30, .int v3, .int v4] mem_3 (fun r_4 mem_4 => vp_in v3 8 ∧ (am_Ci m7_boxed D [.ref 30, .int (mem_4 33 v3.toNatClampNeg)] mem_4 (fun r_5 mem_5 => (((r_3 + r_5) + (mem_5 30 11)) ≤ r_1 → am_J m7_clashes (D + 1) 84 [.ref 30, .int v1, .null, .int v3, .null, .null, .int r_2, .null, .int r_4, .null, .null] [] mem_5 Q) ∧ (¬ ((r_3 + r_5) + (mem_5 30 11)) ≤ r_1 → vp_in v1 8 ∧ (am_Ci m7_boxed D [.ref 30, .int (mem_5 33 v1.toNatClampNeg)] mem_5 (fun r_6 mem_6 => (((r_1 + r_6) + (mem_6 30 11)) ≤ r_3 → am_J m7_clashes (D + 1) 84 [.ref 30, .int v1, .null, .int v3, .null, .null, .int r_2, .null, .int r_4, .null, .null] [] mem_6 Q) ∧ (¬ ((r_1 + r_6) + (mem_6 30 11)) ≤ r_3 → am_J m7_clashes (D + 1) 85 [.ref 30, .int v1, .null, .int v3, .null, .null, .int r_2, .null, .int r_4, .null, .null] [.int 1] mem_6 Q))))))))))) : am_J m7_clashes (D + 1) 0 [.ref 30, .int v1, .int v2, .int v3, .int v4, .null, .null, .null, .null, .null, .null] [] mem Q := by
  refine am_aload_n (pc := 0) 0 dX7_clashes_0 rfl rfl ?_
  refine am_iload_n (pc := 1) 1 dX7_clashes_1 rfl rfl ?_
  refine am_iload_n (pc := 2) 2 dX7_clashes_2 rfl rfl ?_
  refine am_callV (pc := 3) m7_left D 2 [.int v1, .int v2] (rest := []) ok7_left (by omega) rfl rfl sh30 (by decide) rfl l7_109 in7_left se7_left (Nat.le_of_ble_eq_true rfl) dX7_clashes_3 ?_
  refine am_Ci.use h (fun r_1 mem_1 h => ?_)
  show am_J m7_clashes (D + 1) 6 [.ref 30, .int v1, .int v2, .int v3, .int v4, .null, .null, .null, .null, .null, .null] [.int r_1] mem_1 Q
  refine am_istoreE (pc := 6) (loc' := [.ref 30, .int v1, .int v2, .int v3, .int v4, .int r_1, .null, .null, .null, .null, .null]) dX7_clashes_6 (by decide) rfl rfl ?_
  refine am_aload_n (pc := 8) 0 dX7_clashes_8 rfl rfl ?_
  refine am_iload_n (pc := 9) 1 dX7_clashes_9 rfl rfl ?_
  refine am_iload_n (pc := 10) 2 dX7_clashes_10 rfl rfl ?_
  refine am_callV (pc := 11) m7_low D 2 [.int v1, .int v2] (rest := []) ok7_low (by omega) rfl rfl sh30 (by decide) rfl l7_113 in7_low se7_low (Nat.le_of_ble_eq_true rfl) dX7_clashes_11 ?_
  refine am_Ci.use h (fun r_2 mem_2 h => ?_)
  show am_J m7_clashes (D + 1) 14 [.ref 30, .int v1, .int v2, .int v3, .int v4, .int r_1, .null, .null, .null, .null, .null] [.int r_2] mem_2 Q
  refine am_istoreE (pc := 14) (loc' := [.ref 30, .int v1, .int v2, .int v3, .int v4, .int r_1, .int r_2, .null, .null, .null, .null]) dX7_clashes_14 (by decide) rfl rfl ?_
  refine am_aload_n (pc := 16) 0 dX7_clashes_16 rfl rfl ?_
  refine am_iload_n (pc := 17) 3 dX7_clashes_17 rfl rfl ?_
  refine am_iload (pc := 18) dX7_clashes_18 rfl ?_
  refine am_callV (pc := 20) m7_left D 2 [.int v3, .int v4] (rest := []) ok7_left (by omega) rfl rfl sh30 (by decide) rfl l7_109 in7_left se7_left (Nat.le_of_ble_eq_true rfl) dX7_clashes_20 ?_
  refine am_Ci.use h (fun r_3 mem_3 h => ?_)
  show am_J m7_clashes (D + 1) 23 [.ref 30, .int v1, .int v2, .int v3, .int v4, .int r_1, .int r_2, .null, .null, .null, .null] [.int r_3] mem_3 Q
  refine am_istoreE (pc := 23) (loc' := [.ref 30, .int v1, .int v2, .int v3, .int v4, .int r_1, .int r_2, .int r_3, .null, .null, .null]) dX7_clashes_23 (by decide) rfl rfl ?_
  refine am_aload_n (pc := 25) 0 dX7_clashes_25 rfl rfl ?_
  refine am_iload_n (pc := 26) 3 dX7_clashes_26 rfl rfl ?_
  refine am_iload (pc := 27) dX7_clashes_27 rfl ?_
  refine am_callV (pc := 29) m7_low D 2 [.int v3, .int v4] (rest := []) ok7_low (by omega) rfl rfl sh30 (by decide) rfl l7_113 in7_low se7_low (Nat.le_of_ble_eq_true rfl) dX7_clashes_29 ?_
  refine am_Ci.use h (fun r_4 mem_4 h => ?_)
  show am_J m7_clashes (D + 1) 32 [.ref 30, .int v1, .int v2, .int v3, .int v4, .int r_1, .int r_2, .int r_3, .null, .null, .null] [.int r_4] mem_4 Q
  refine am_istoreE (pc := 32) (loc' := [.ref 30, .int v1, .int v2, .int v3, .int v4, .int r_1, .int r_2, .int r_3, .int r_4, .null, .null]) dX7_clashes_32 (by decide) rfl rfl ?_
  refine am_iload (pc := 34) dX7_clashes_34 rfl ?_
  refine am_iload (pc := 36) dX7_clashes_36 rfl ?_
  refine am_aload_n (pc := 38) 0 dX7_clashes_38 rfl rfl ?_
  refine am_aload_n (pc := 39) 0 dX7_clashes_39 rfl rfl ?_
  refine am_getR (pc := 40) (k := 5) cl7 sh30 (by decide) (by decide) f7_23 rfl dX7_clashes_40 ?_
  refine am_iload_n (pc := 43) 3 dX7_clashes_43 rfl rfl ?_
  refine am_iald (pc := 44) sh33 (by decide) h.1 dX7_clashes_44 ?_
  replace h := h.2
  refine am_callV (pc := 45) m7_boxed D 1 [.int (mem_4 33 v3.toNatClampNeg)] (rest := [.int r_3, .int r_1]) ok7_boxed (by omega) rfl rfl sh30 (by decide) rfl l7_105 in7_boxed se7_boxed (Nat.le_of_ble_eq_true rfl) dX7_clashes_45 ?_
  refine am_Ci.use h (fun r_5 mem_5 h => ?_)
  show am_J m7_clashes (D + 1) 48 [.ref 30, .int v1, .int v2, .int v3, .int v4, .int r_1, .int r_2, .int r_3, .int r_4, .null, .null] [.int r_5, .int r_3, .int r_1] mem_5 Q
  refine am_iadd (pc := 48) dX7_clashes_48 ?_
  refine am_aload_n (pc := 49) 0 dX7_clashes_49 rfl rfl ?_
  refine am_getI (pc := 50) (k := 11) cl7 sh30 (by decide) (by decide) f7_102 rfl dX7_clashes_50 ?_
  refine am_iadd (pc := 53) dX7_clashes_53 ?_
  refine am_icmp_ge (pc := 54) 84 dX7_clashes_54 (by decide) (fun c => ?_) (fun c => ?_)
  · replace h := h.1 c
    exact am_drop [2, 4, 5, 7] h
  · replace h := h.2 c
    refine am_iload (pc := 57) dX7_clashes_57 rfl ?_
    refine am_iload (pc := 59) dX7_clashes_59 rfl ?_
    refine am_aload_n (pc := 61) 0 dX7_clashes_61 rfl rfl ?_
    refine am_aload_n (pc := 62) 0 dX7_clashes_62 rfl rfl ?_
    refine am_getR (pc := 63) (k := 5) cl7 sh30 (by decide) (by decide) f7_23 rfl dX7_clashes_63 ?_
    refine am_iload_n (pc := 66) 1 dX7_clashes_66 rfl rfl ?_
    refine am_iald (pc := 67) sh33 (by decide) h.1 dX7_clashes_67 ?_
    replace h := h.2
    refine am_callV (pc := 68) m7_boxed D 1 [.int (mem_5 33 v1.toNatClampNeg)] (rest := [.int r_1, .int r_3]) ok7_boxed (by omega) rfl rfl sh30 (by decide) rfl l7_105 in7_boxed se7_boxed (Nat.le_of_ble_eq_true rfl) dX7_clashes_68 ?_
    refine am_Ci.use h (fun r_6 mem_6 h => ?_)
    show am_J m7_clashes (D + 1) 71 [.ref 30, .int v1, .int v2, .int v3, .int v4, .int r_1, .int r_2, .int r_3, .int r_4, .null, .null] [.int r_6, .int r_1, .int r_3] mem_6 Q
    refine am_iadd (pc := 71) dX7_clashes_71 ?_
    refine am_aload_n (pc := 72) 0 dX7_clashes_72 rfl rfl ?_
    refine am_getI (pc := 73) (k := 11) cl7 sh30 (by decide) (by decide) f7_102 rfl dX7_clashes_73 ?_
    refine am_iadd (pc := 76) dX7_clashes_76 ?_
    refine am_icmp_ge (pc := 77) 84 dX7_clashes_77 (by decide) (fun c => ?_) (fun c => ?_)
    · replace h := h.1 c
      exact am_drop [2, 4, 5, 7] h
    · replace h := h.2 c
      refine am_iconst (pc := 80) (v := 1) dX7_clashes_80 rfl ?_
      refine am_goto (pc := 81) 85 dX7_clashes_81 (by decide) ?_
      exact am_drop [2, 4, 5, 7] h
set_option maxRecDepth 100000 in
set_option maxHeartbeats 4000000 in
theorem sg7_clashes_84 {D : Nat} {mem : am_Mem} {Q : Option Value → am_Mem → Prop} {v1 : Int32} {v3 : Int32} {v6 : Int32} {v8 : Int32} (h : am_J m7_clashes (D + 1) 85 [.ref 30, .int v1, .null, .int v3, .null, .null, .int v6, .null, .int v8, .null, .null] [.int 0] mem Q) : am_J m7_clashes (D + 1) 84 [.ref 30, .int v1, .null, .int v3, .null, .null, .int v6, .null, .int v8, .null, .null] [] mem Q := by
  refine am_iconst (pc := 84) (v := 0) dX7_clashes_84 rfl ?_
  exact h
set_option maxRecDepth 100000 in
set_option maxHeartbeats 4000000 in
theorem sg7_clashes_85 {D : Nat} {mem : am_Mem} {Q : Option Value → am_Mem → Prop} {v1 : Int32} {v3 : Int32} {v6 : Int32} {v8 : Int32} {s0 : Int32} (h : vp_in v3 8 ∧ (am_Ci m7_boxed D [.ref 30, .int (mem 34 v3.toNatClampNeg)] mem (fun r_1 mem_1 => (((v8 + r_1) + (mem_1 30 11)) ≤ v6 → am_J m7_clashes (D + 1) 137 [.null, .null, .null, .null, .null, .null, .null, .null, .null, .int s0, .null] [] mem_1 Q) ∧ (¬ ((v8 + r_1) + (mem_1 30 11)) ≤ v6 → vp_in v1 8 ∧ (am_Ci m7_boxed D [.ref 30, .int (mem_1 34 v1.toNatClampNeg)] mem_1 (fun r_2 mem_2 => (((v6 + r_2) + (mem_2 30 11)) ≤ v8 → am_J m7_clashes (D + 1) 137 [.null, .null, .null, .null, .null, .null, .null, .null, .null, .int s0, .null] [] mem_2 Q) ∧ (¬ ((v6 + r_2) + (mem_2 30 11)) ≤ v8 → am_J m7_clashes (D + 1) 138 [.null, .null, .null, .null, .null, .null, .null, .null, .null, .int s0, .null] [.int 1] mem_2 Q))))))) : am_J m7_clashes (D + 1) 85 [.ref 30, .int v1, .null, .int v3, .null, .null, .int v6, .null, .int v8, .null, .null] [.int s0] mem Q := by
  refine am_istoreE (pc := 85) (loc' := [.ref 30, .int v1, .null, .int v3, .null, .null, .int v6, .null, .int v8, .int s0, .null]) dX7_clashes_85 (by decide) rfl rfl ?_
  refine am_iload (pc := 87) dX7_clashes_87 rfl ?_
  refine am_iload (pc := 89) dX7_clashes_89 rfl ?_
  refine am_aload_n (pc := 91) 0 dX7_clashes_91 rfl rfl ?_
  refine am_aload_n (pc := 92) 0 dX7_clashes_92 rfl rfl ?_
  refine am_getR (pc := 93) (k := 6) cl7 sh30 (by decide) (by decide) f7_26 rfl dX7_clashes_93 ?_
  refine am_iload_n (pc := 96) 3 dX7_clashes_96 rfl rfl ?_
  refine am_iald (pc := 97) sh34 (by decide) h.1 dX7_clashes_97 ?_
  replace h := h.2
  refine am_callV (pc := 98) m7_boxed D 1 [.int (mem 34 v3.toNatClampNeg)] (rest := [.int v8, .int v6]) ok7_boxed (by omega) rfl rfl sh30 (by decide) rfl l7_105 in7_boxed se7_boxed (Nat.le_of_ble_eq_true rfl) dX7_clashes_98 ?_
  refine am_Ci.use h (fun r_1 mem_1 h => ?_)
  show am_J m7_clashes (D + 1) 101 [.ref 30, .int v1, .null, .int v3, .null, .null, .int v6, .null, .int v8, .int s0, .null] [.int r_1, .int v8, .int v6] mem_1 Q
  refine am_iadd (pc := 101) dX7_clashes_101 ?_
  refine am_aload_n (pc := 102) 0 dX7_clashes_102 rfl rfl ?_
  refine am_getI (pc := 103) (k := 11) cl7 sh30 (by decide) (by decide) f7_102 rfl dX7_clashes_103 ?_
  refine am_iadd (pc := 106) dX7_clashes_106 ?_
  refine am_icmp_ge (pc := 107) 137 dX7_clashes_107 (by decide) (fun c => ?_) (fun c => ?_)
  · replace h := h.1 c
    exact am_drop [0, 1, 3, 6, 8] h
  · replace h := h.2 c
    refine am_iload (pc := 110) dX7_clashes_110 rfl ?_
    refine am_iload (pc := 112) dX7_clashes_112 rfl ?_
    refine am_aload_n (pc := 114) 0 dX7_clashes_114 rfl rfl ?_
    refine am_aload_n (pc := 115) 0 dX7_clashes_115 rfl rfl ?_
    refine am_getR (pc := 116) (k := 6) cl7 sh30 (by decide) (by decide) f7_26 rfl dX7_clashes_116 ?_
    refine am_iload_n (pc := 119) 1 dX7_clashes_119 rfl rfl ?_
    refine am_iald (pc := 120) sh34 (by decide) h.1 dX7_clashes_120 ?_
    replace h := h.2
    refine am_callV (pc := 121) m7_boxed D 1 [.int (mem_1 34 v1.toNatClampNeg)] (rest := [.int v6, .int v8]) ok7_boxed (by omega) rfl rfl sh30 (by decide) rfl l7_105 in7_boxed se7_boxed (Nat.le_of_ble_eq_true rfl) dX7_clashes_121 ?_
    refine am_Ci.use h (fun r_2 mem_2 h => ?_)
    show am_J m7_clashes (D + 1) 124 [.ref 30, .int v1, .null, .int v3, .null, .null, .int v6, .null, .int v8, .int s0, .null] [.int r_2, .int v6, .int v8] mem_2 Q
    refine am_iadd (pc := 124) dX7_clashes_124 ?_
    refine am_aload_n (pc := 125) 0 dX7_clashes_125 rfl rfl ?_
    refine am_getI (pc := 126) (k := 11) cl7 sh30 (by decide) (by decide) f7_102 rfl dX7_clashes_126 ?_
    refine am_iadd (pc := 129) dX7_clashes_129 ?_
    refine am_icmp_ge (pc := 130) 137 dX7_clashes_130 (by decide) (fun c => ?_) (fun c => ?_)
    · replace h := h.1 c
      exact am_drop [0, 1, 3, 6, 8] h
    · replace h := h.2 c
      refine am_iconst (pc := 133) (v := 1) dX7_clashes_133 rfl ?_
      refine am_goto (pc := 134) 138 dX7_clashes_134 (by decide) ?_
      exact am_drop [0, 1, 3, 6, 8] h
set_option maxRecDepth 100000 in
set_option maxHeartbeats 4000000 in
theorem sg7_clashes_137 {D : Nat} {mem : am_Mem} {Q : Option Value → am_Mem → Prop} {v9 : Int32} (h : am_J m7_clashes (D + 1) 138 [.null, .null, .null, .null, .null, .null, .null, .null, .null, .int v9, .null] [.int 0] mem Q) : am_J m7_clashes (D + 1) 137 [.null, .null, .null, .null, .null, .null, .null, .null, .null, .int v9, .null] [] mem Q := by
  refine am_iconst (pc := 137) (v := 0) dX7_clashes_137 rfl ?_
  exact h
set_option maxRecDepth 100000 in
set_option maxHeartbeats 4000000 in
theorem sg7_clashes_138 {D : Nat} {mem : am_Mem} {Q : Option Value → am_Mem → Prop} {v9 : Int32} {s0 : Int32} (h : (v9 = 0 → Q (some (.int 0)) mem) ∧ (¬ v9 = 0 → (s0 = 0 → Q (some (.int 0)) mem) ∧ (¬ s0 = 0 → Q (some (.int 1)) mem))) : am_J m7_clashes (D + 1) 138 [.null, .null, .null, .null, .null, .null, .null, .null, .null, .int v9, .null] [.int s0] mem Q := by
  refine am_istoreE (pc := 138) (loc' := [.null, .null, .null, .null, .null, .null, .null, .null, .null, .int v9, .int s0]) dX7_clashes_138 (by decide) rfl rfl ?_
  refine am_iload (pc := 140) dX7_clashes_140 rfl ?_
  refine am_if_eq (pc := 142) 154 dX7_clashes_142 (by decide) (fun c => ?_) (fun c => ?_)
  · replace h := h.1 c
    refine am_iconst (pc := 154) (v := 0) dX7_clashes_154 rfl ?_
    exact am_zreturn rfl (by decide) dX7_clashes_155 h
  · replace h := h.2 c
    refine am_iload (pc := 145) dX7_clashes_145 rfl ?_
    refine am_if_eq (pc := 147) 154 dX7_clashes_147 (by decide) (fun c => ?_) (fun c => ?_)
    · replace h := h.1 c
      refine am_iconst (pc := 154) (v := 0) dX7_clashes_154 rfl ?_
      exact am_zreturn rfl (by decide) dX7_clashes_155 h
    · replace h := h.2 c
      refine am_iconst (pc := 150) (v := 1) dX7_clashes_150 rfl ?_
      refine am_goto (pc := 151) 155 dX7_clashes_151 (by decide) ?_
      exact am_zreturn rfl (by decide) dX7_clashes_155 h
set_option maxRecDepth 100000 in
set_option maxHeartbeats 4000000 in
theorem sg7_free_0 {D : Nat} {mem : am_Mem} {Q : Option Value → am_Mem → Prop} {v1 : Int32} {v2 : Int32} (h : am_Ci m7_isSite D [.ref 30, .int v1] mem (fun r_1 mem_1 => (¬ r_1 = 0 → am_Ci m7_isCorner D [.int v2] mem_1 (fun r_2 mem_2 => (¬ r_2 = 0 → am_Ci m7_isFree D [.ref 30, .int v1, .int v2] mem_2 (fun r_3 mem_3 => (r_3 = 0 → Q (some (.int 0)) mem_3) ∧ (¬ r_3 = 0 → Q (some (.int 1)) mem_3))) ∧ (r_2 = 0 → Q (some (.int (-2))) mem_2))) ∧ (r_1 = 0 → Q (some (.int (-1))) mem_1))) : am_J m7_free (D + 1) 0 [.ref 30, .int v1, .int v2] [] mem Q := by
  refine am_aload_n (pc := 0) 0 dX7_free_0 rfl rfl ?_
  refine am_iload_n (pc := 1) 1 dX7_free_1 rfl rfl ?_
  refine am_callV (pc := 2) m7_isSite D 1 [.int v1] (rest := []) ok7_isSite (by omega) rfl rfl sh30 (by decide) rfl l7_93 in7_isSite se7_isSite (Nat.le_of_ble_eq_true rfl) dX7_free_2 ?_
  refine am_Ci.use h (fun r_1 mem_1 h => ?_)
  show am_J m7_free (D + 1) 5 [.ref 30, .int v1, .int v2] [.int r_1] mem_1 Q
  refine am_if_ne (pc := 5) 10 dX7_free_5 (by decide) (fun c => ?_) (fun c => ?_)
  · replace h := h.1 c
    refine am_iload_n (pc := 10) 2 dX7_free_10 rfl rfl ?_
    refine am_callS (pc := 11) m7_isCorner D 1 [.int v2] (rest := []) ok7_isCorner (by omega) rfl rfl l7_97 st7_isCorner (Nat.le_of_ble_eq_true rfl) dX7_free_11 ?_
    refine am_Ci.use h (fun r_2 mem_2 h => ?_)
    show am_J m7_free (D + 1) 14 [.ref 30, .int v1, .int v2] [.int r_2] mem_2 Q
    refine am_if_ne (pc := 14) 22 dX7_free_14 (by decide) (fun c => ?_) (fun c => ?_)
    · replace h := h.1 c
      refine am_aload_n (pc := 22) 0 dX7_free_22 rfl rfl ?_
      refine am_iload_n (pc := 23) 1 dX7_free_23 rfl rfl ?_
      refine am_iload_n (pc := 24) 2 dX7_free_24 rfl rfl ?_
      refine am_callV (pc := 25) m7_isFree D 2 [.int v1, .int v2] (rest := []) ok7_isFree (by omega) rfl rfl sh30 (by decide) rfl l7_119 in7_isFree se7_isFree (Nat.le_of_ble_eq_true rfl) dX7_free_25 ?_
      refine am_Ci.use h (fun r_3 mem_3 h => ?_)
      show am_J m7_free (D + 1) 28 [.ref 30, .int v1, .int v2] [.int r_3] mem_3 Q
      refine am_if_eq (pc := 28) 35 dX7_free_28 (by decide) (fun c => ?_) (fun c => ?_)
      · replace h := h.1 c
        refine am_iconst (pc := 35) (v := 0) dX7_free_35 rfl ?_
        exact am_ireturn rfl dX7_free_36 h
      · replace h := h.2 c
        refine am_iconst (pc := 31) (v := 1) dX7_free_31 rfl ?_
        refine am_goto (pc := 32) 36 dX7_free_32 (by decide) ?_
        exact am_ireturn rfl dX7_free_36 h
    · replace h := h.2 c
      refine am_bipush (pc := 17) (v := -2) dX7_free_17 rfl ?_
      refine am_goto (pc := 19) 36 dX7_free_19 (by decide) ?_
      exact am_ireturn rfl dX7_free_36 h
  · replace h := h.2 c
    refine am_iconst (pc := 8) (v := -1) dX7_free_8 rfl ?_
    exact am_ireturn rfl dX7_free_9 h
set_option maxRecDepth 100000 in
set_option maxHeartbeats 4000000 in
theorem sg7_clash_0 {D : Nat} {mem : am_Mem} {Q : Option Value → am_Mem → Prop} {v1 : Int32} {v2 : Int32} {v3 : Int32} {v4 : Int32} (h : am_Ci m7_isSite D [.ref 30, .int v1] mem (fun r_1 mem_1 => (r_1 = 0 → Q (some (.int (-1))) mem_1) ∧ (¬ r_1 = 0 → am_Ci m7_isSite D [.ref 30, .int v3] mem_1 (fun r_2 mem_2 => (¬ r_2 = 0 → am_Ci m7_isCorner D [.int v2] mem_2 (fun r_3 mem_3 => (r_3 = 0 → Q (some (.int (-2))) mem_3) ∧ (¬ r_3 = 0 → am_Ci m7_isCorner D [.int v4] mem_3 (fun r_4 mem_4 => (¬ r_4 = 0 → (¬ v1 = v3 → am_Ci m7_clashes D [.ref 30, .int v1, .int v2, .int v3, .int v4] mem_4 (fun r_5 mem_5 => (r_5 = 0 → Q (some (.int 0)) mem_5) ∧ (¬ r_5 = 0 → Q (some (.int 1)) mem_5))) ∧ (v1 = v3 → Q (some (.int (-3))) mem_4)) ∧ (r_4 = 0 → Q (some (.int (-2))) mem_4))))) ∧ (r_2 = 0 → Q (some (.int (-1))) mem_2))))) : am_J m7_clash (D + 1) 0 [.ref 30, .int v1, .int v2, .int v3, .int v4] [] mem Q := by
  refine am_aload_n (pc := 0) 0 dX7_clash_0 rfl rfl ?_
  refine am_iload_n (pc := 1) 1 dX7_clash_1 rfl rfl ?_
  refine am_callV (pc := 2) m7_isSite D 1 [.int v1] (rest := []) ok7_isSite (by omega) rfl rfl sh30 (by decide) rfl l7_93 in7_isSite se7_isSite (Nat.le_of_ble_eq_true rfl) dX7_clash_2 ?_
  refine am_Ci.use h (fun r_1 mem_1 h => ?_)
  show am_J m7_clash (D + 1) 5 [.ref 30, .int v1, .int v2, .int v3, .int v4] [.int r_1] mem_1 Q
  refine am_if_eq (pc := 5) 16 dX7_clash_5 (by decide) (fun c => ?_) (fun c => ?_)
  · replace h := h.1 c
    refine am_iconst (pc := 16) (v := -1) dX7_clash_16 rfl ?_
    exact am_ireturn rfl dX7_clash_17 h
  · replace h := h.2 c
    refine am_aload_n (pc := 8) 0 dX7_clash_8 rfl rfl ?_
    refine am_iload_n (pc := 9) 3 dX7_clash_9 rfl rfl ?_
    refine am_callV (pc := 10) m7_isSite D 1 [.int v3] (rest := []) ok7_isSite (by omega) rfl rfl sh30 (by decide) rfl l7_93 in7_isSite se7_isSite (Nat.le_of_ble_eq_true rfl) dX7_clash_10 ?_
    refine am_Ci.use h (fun r_2 mem_2 h => ?_)
    show am_J m7_clash (D + 1) 13 [.ref 30, .int v1, .int v2, .int v3, .int v4] [.int r_2] mem_2 Q
    refine am_if_ne (pc := 13) 18 dX7_clash_13 (by decide) (fun c => ?_) (fun c => ?_)
    · replace h := h.1 c
      refine am_iload_n (pc := 18) 2 dX7_clash_18 rfl rfl ?_
      refine am_callS (pc := 19) m7_isCorner D 1 [.int v2] (rest := []) ok7_isCorner (by omega) rfl rfl l7_97 st7_isCorner (Nat.le_of_ble_eq_true rfl) dX7_clash_19 ?_
      refine am_Ci.use h (fun r_3 mem_3 h => ?_)
      show am_J m7_clash (D + 1) 22 [.ref 30, .int v1, .int v2, .int v3, .int v4] [.int r_3] mem_3 Q
      refine am_if_eq (pc := 22) 33 dX7_clash_22 (by decide) (fun c => ?_) (fun c => ?_)
      · replace h := h.1 c
        refine am_bipush (pc := 33) (v := -2) dX7_clash_33 rfl ?_
        exact am_ireturn rfl dX7_clash_35 h
      · replace h := h.2 c
        refine am_iload (pc := 25) dX7_clash_25 rfl ?_
        refine am_callS (pc := 27) m7_isCorner D 1 [.int v4] (rest := []) ok7_isCorner (by omega) rfl rfl l7_97 st7_isCorner (Nat.le_of_ble_eq_true rfl) dX7_clash_27 ?_
        refine am_Ci.use h (fun r_4 mem_4 h => ?_)
        show am_J m7_clash (D + 1) 30 [.ref 30, .int v1, .int v2, .int v3, .int v4] [.int r_4] mem_4 Q
        refine am_if_ne (pc := 30) 36 dX7_clash_30 (by decide) (fun c => ?_) (fun c => ?_)
        · replace h := h.1 c
          refine am_iload_n (pc := 36) 1 dX7_clash_36 rfl rfl ?_
          refine am_iload_n (pc := 37) 3 dX7_clash_37 rfl rfl ?_
          refine am_icmp_ne (pc := 38) 46 dX7_clash_38 (by decide) (fun c => ?_) (fun c => ?_)
          · replace h := h.1 c
            refine am_aload_n (pc := 46) 0 dX7_clash_46 rfl rfl ?_
            refine am_iload_n (pc := 47) 1 dX7_clash_47 rfl rfl ?_
            refine am_iload_n (pc := 48) 2 dX7_clash_48 rfl rfl ?_
            refine am_iload_n (pc := 49) 3 dX7_clash_49 rfl rfl ?_
            refine am_iload (pc := 50) dX7_clash_50 rfl ?_
            refine am_callV (pc := 52) m7_clashes D 4 [.int v1, .int v2, .int v3, .int v4] (rest := []) ok7_clashes (by omega) rfl rfl sh30 (by decide) rfl l7_123 in7_clashes se7_clashes (Nat.le_of_ble_eq_true rfl) dX7_clash_52 ?_
            refine am_Ci.use h (fun r_5 mem_5 h => ?_)
            show am_J m7_clash (D + 1) 55 [.ref 30, .int v1, .int v2, .int v3, .int v4] [.int r_5] mem_5 Q
            refine am_if_eq (pc := 55) 62 dX7_clash_55 (by decide) (fun c => ?_) (fun c => ?_)
            · replace h := h.1 c
              refine am_iconst (pc := 62) (v := 0) dX7_clash_62 rfl ?_
              exact am_ireturn rfl dX7_clash_63 h
            · replace h := h.2 c
              refine am_iconst (pc := 58) (v := 1) dX7_clash_58 rfl ?_
              refine am_goto (pc := 59) 63 dX7_clash_59 (by decide) ?_
              exact am_ireturn rfl dX7_clash_63 h
          · replace h := h.2 c
            refine am_bipush (pc := 41) (v := -3) dX7_clash_41 rfl ?_
            refine am_goto (pc := 43) 63 dX7_clash_43 (by decide) ?_
            exact am_ireturn rfl dX7_clash_63 h
        · replace h := h.2 c
          refine am_bipush (pc := 33) (v := -2) dX7_clash_33 rfl ?_
          exact am_ireturn rfl dX7_clash_35 h
    · replace h := h.2 c
      refine am_iconst (pc := 16) (v := -1) dX7_clash_16 rfl ?_
      exact am_ireturn rfl dX7_clash_17 h
set_option maxRecDepth 100000 in
set_option maxHeartbeats 4000000 in
theorem sg7_layBits_0 {D : Nat} {mem : am_Mem} {Q : Option Value → am_Mem → Prop}  (h : am_J m7_layBits (D + 1) 7 [.ref 30, .int 0, .null, .null, .null] [] (am_set mem 30 16 0) Q) : am_J m7_layBits (D + 1) 0 [.ref 30, .null, .null, .null, .null] [] mem Q := by
  refine am_aload_n (pc := 0) 0 dX7_layBits_0 rfl rfl ?_
  refine am_iconst (pc := 1) (v := 0) dX7_layBits_1 rfl ?_
  refine am_putI (pc := 2) (k := 16) cl7 sh30 (by decide) (by decide) f7_127 rfl rfl rfl dX7_layBits_2 ?_
  refine am_iconst (pc := 5) (v := 0) dX7_layBits_5 rfl ?_
  refine am_istoreE_n (pc := 6) 1 (loc' := [.ref 30, .int 0, .null, .null, .null]) dX7_layBits_6 rfl (by decide) rfl rfl ?_
  exact h
set_option maxRecDepth 100000 in
set_option maxHeartbeats 4000000 in
theorem sg7_layBits_7 {D : Nat} {mem : am_Mem} {Q : Option Value → am_Mem → Prop} {v1 : Int32} (h : (32 ≤ v1 → am_J m7_layBits (D + 1) 77 [.ref 30, .int 0, .null, .null, .null] [] mem Q) ∧ (¬ 32 ≤ v1 → vp_in v1 32 ∧ ((((am_set mem 40 v1.toNatClampNeg 0) 30 2) ≤ (v1 / 4) → am_J m7_layBits (D + 1) 47 [.ref 30, .int v1, .null, .null, .null] [] (am_set mem 40 v1.toNatClampNeg 0) Q) ∧ (¬ ((am_set mem 40 v1.toNatClampNeg 0) 30 2) ≤ (v1 / 4) → am_Ci m7_isFree D [.ref 30, .int (v1 / 4), .int (v1 - v1 / 4 * 4)] (am_set mem 40 v1.toNatClampNeg 0) (fun r_1 mem_1 => (r_1 = 0 → am_J m7_layBits (D + 1) 47 [.ref 30, .int v1, .null, .null, .null] [] mem_1 Q) ∧ (¬ r_1 = 0 → am_J m7_layBits (D + 1) 48 [.ref 30, .int v1, .null, .null, .null] [.int 1] mem_1 Q)))))) : am_J m7_layBits (D + 1) 7 [.ref 30, .int v1, .null, .null, .null] [] mem Q := by
  refine am_iload_n (pc := 7) 1 dX7_layBits_7 rfl rfl ?_
  refine am_bipush (pc := 8) (v := 32) dX7_layBits_8 rfl ?_
  refine am_icmp_ge (pc := 10) 75 dX7_layBits_10 (by decide) (fun c => ?_) (fun c => ?_)
  · replace h := h.1 c
    refine am_iconst (pc := 75) (v := 0) dX7_layBits_75 rfl ?_
    refine am_istoreE_n (pc := 76) 1 (loc' := [.ref 30, .int 0, .null, .null, .null]) dX7_layBits_76 rfl (by decide) rfl rfl ?_
    exact h
  · replace h := h.2 c
    refine am_aload_n (pc := 13) 0 dX7_layBits_13 rfl rfl ?_
    refine am_getR (pc := 14) (k := 17) cl7 sh30 (by decide) (by decide) f7_50 rfl dX7_layBits_14 ?_
    refine am_iload_n (pc := 17) 1 dX7_layBits_17 rfl rfl ?_
    refine am_iconst (pc := 18) (v := 0) dX7_layBits_18 rfl ?_
    refine am_iast (pc := 19) sh40 (by decide) h.1 dX7_layBits_19 ?_
    replace h := h.2
    refine am_iload_n (pc := 20) 1 dX7_layBits_20 rfl rfl ?_
    refine am_iconst (pc := 21) (v := 4) dX7_layBits_21 rfl ?_
    refine am_idiv (pc := 22) dX7_layBits_22 (by decide) ?_
    refine am_aload_n (pc := 23) 0 dX7_layBits_23 rfl rfl ?_
    refine am_getI (pc := 24) (k := 2) cl7 sh30 (by decide) (by decide) f7_74 rfl dX7_layBits_24 ?_
    refine am_icmp_ge (pc := 27) 47 dX7_layBits_27 (by decide) (fun c => ?_) (fun c => ?_)
    · replace h := h.1 c
      exact h
    · replace h := h.2 c
      refine am_aload_n (pc := 30) 0 dX7_layBits_30 rfl rfl ?_
      refine am_iload_n (pc := 31) 1 dX7_layBits_31 rfl rfl ?_
      refine am_iconst (pc := 32) (v := 4) dX7_layBits_32 rfl ?_
      refine am_idiv (pc := 33) dX7_layBits_33 (by decide) ?_
      refine am_iload_n (pc := 34) 1 dX7_layBits_34 rfl rfl ?_
      refine am_iconst (pc := 35) (v := 4) dX7_layBits_35 rfl ?_
      refine am_irem (pc := 36) dX7_layBits_36 (by decide) ?_
      refine am_callV (pc := 37) m7_isFree D 2 [.int (v1 / 4), .int (v1 - v1 / 4 * 4)] (rest := []) ok7_isFree (by omega) rfl rfl sh30 (by decide) rfl l7_119 in7_isFree se7_isFree (Nat.le_of_ble_eq_true rfl) dX7_layBits_37 ?_
      refine am_Ci.use h (fun r_1 mem_1 h => ?_)
      show am_J m7_layBits (D + 1) 40 [.ref 30, .int v1, .null, .null, .null] [.int r_1] mem_1 Q
      refine am_if_eq (pc := 40) 47 dX7_layBits_40 (by decide) (fun c => ?_) (fun c => ?_)
      · replace h := h.1 c
        exact h
      · replace h := h.2 c
        refine am_iconst (pc := 43) (v := 1) dX7_layBits_43 rfl ?_
        refine am_goto (pc := 44) 48 dX7_layBits_44 (by decide) ?_
        exact h
set_option maxRecDepth 100000 in
set_option maxHeartbeats 4000000 in
theorem sg7_layBits_47 {D : Nat} {mem : am_Mem} {Q : Option Value → am_Mem → Prop} {v1 : Int32} (h : am_J m7_layBits (D + 1) 48 [.ref 30, .int v1, .null, .null, .null] [.int 0] mem Q) : am_J m7_layBits (D + 1) 47 [.ref 30, .int v1, .null, .null, .null] [] mem Q := by
  refine am_iconst (pc := 47) (v := 0) dX7_layBits_47 rfl ?_
  exact h
set_option maxRecDepth 100000 in
set_option maxHeartbeats 4000000 in
theorem sg7_layBits_48 {D : Nat} {mem : am_Mem} {Q : Option Value → am_Mem → Prop} {v1 : Int32} {s0 : Int32} (h : (s0 = 0 → am_J m7_layBits (D + 1) 65 [.ref 30, .int v1, .null, .null, .null] [.int 0, .int (mem 30 16), .ref 30] mem Q) ∧ (¬ s0 = 0 → am_J m7_layBits (D + 1) 65 [.ref 30, .int v1, .null, .null, .null] [.int ((1 : Int32) <<< (v1 &&& 31)), .int (mem 30 16), .ref 30] mem Q)) : am_J m7_layBits (D + 1) 48 [.ref 30, .int v1, .null, .null, .null] [.int s0] mem Q := by
  refine am_istoreE_n (pc := 48) 2 (loc' := [.ref 30, .int v1, .int s0, .null, .null]) dX7_layBits_48 rfl (by decide) rfl rfl ?_
  refine am_aload_n (pc := 49) 0 dX7_layBits_49 rfl rfl ?_
  refine am_dup (pc := 50) dX7_layBits_50 rfl ?_
  refine am_getI (pc := 51) (k := 16) cl7 sh30 (by decide) (by decide) f7_127 rfl dX7_layBits_51 ?_
  refine am_iload_n (pc := 54) 2 dX7_layBits_54 rfl rfl ?_
  refine am_if_eq (pc := 55) 64 dX7_layBits_55 (by decide) (fun c => ?_) (fun c => ?_)
  · replace h := h.1 c
    refine am_iconst (pc := 64) (v := 0) dX7_layBits_64 rfl ?_
    exact am_drop [2] h
  · replace h := h.2 c
    refine am_iconst (pc := 58) (v := 1) dX7_layBits_58 rfl ?_
    refine am_iload_n (pc := 59) 1 dX7_layBits_59 rfl rfl ?_
    refine am_ishl (pc := 60) dX7_layBits_60 ?_
    refine am_goto (pc := 61) 65 dX7_layBits_61 (by decide) ?_
    exact am_drop [2] h
set_option maxRecDepth 100000 in
set_option maxHeartbeats 4000000 in
theorem sg7_layBits_65 {D : Nat} {mem : am_Mem} {Q : Option Value → am_Mem → Prop} {v1 : Int32} {s0 : Int32} {s1 : Int32} (h : am_J m7_layBits (D + 1) 7 [.ref 30, .int (v1 + 1), .null, .null, .null] [] (am_set mem 30 16 (s1 ||| s0)) Q) : am_J m7_layBits (D + 1) 65 [.ref 30, .int v1, .null, .null, .null] [.int s0, .int s1, .ref 30] mem Q := by
  refine am_ior (pc := 65) dX7_layBits_65 ?_
  refine am_putI (pc := 66) (k := 16) cl7 sh30 (by decide) (by decide) f7_127 rfl rfl rfl dX7_layBits_66 ?_
  refine am_iincE (pc := 69) (v := 1) (loc' := [.ref 30, .int (v1 + 1), .null, .null, .null]) dX7_layBits_69 rfl rfl (by decide) rfl rfl ?_
  refine am_goto (pc := 72) 7 dX7_layBits_72 (by decide) ?_
  exact h
set_option maxRecDepth 100000 in
set_option maxHeartbeats 4000000 in
theorem sg7_layBits_77 {D : Nat} {mem : am_Mem} {Q : Option Value → am_Mem → Prop} {v1 : Int32} (h : (1024 ≤ v1 → Q none mem) ∧ (¬ 1024 ≤ v1 → ((mem 30 2) ≤ ((v1 / 32) / 4) → am_J m7_layBits (D + 1) 127 [.ref 30, .int v1, .int (v1 / 32), .int (v1 - v1 / 32 * 32), .null] [] mem Q) ∧ (¬ (mem 30 2) ≤ ((v1 / 32) / 4) → ((mem 30 2) ≤ ((v1 - v1 / 32 * 32) / 4) → am_J m7_layBits (D + 1) 127 [.ref 30, .int v1, .int (v1 / 32), .int (v1 - v1 / 32 * 32), .null] [] mem Q) ∧ (¬ (mem 30 2) ≤ ((v1 - v1 / 32 * 32) / 4) → (((v1 / 32) / 4) = ((v1 - v1 / 32 * 32) / 4) → am_J m7_layBits (D + 1) 127 [.ref 30, .int v1, .int (v1 / 32), .int (v1 - v1 / 32 * 32), .null] [] mem Q) ∧ (¬ ((v1 / 32) / 4) = ((v1 - v1 / 32 * 32) / 4) → am_J m7_layBits (D + 1) 128 [.ref 30, .int v1, .int (v1 / 32), .int (v1 - v1 / 32 * 32), .null] [.int 1] mem Q))))) : am_J m7_layBits (D + 1) 77 [.ref 30, .int v1, .null, .null, .null] [] mem Q := by
  refine am_iload_n (pc := 77) 1 dX7_layBits_77 rfl rfl ?_
  refine am_sipush (pc := 78) (v := 1024) dX7_layBits_78 rfl ?_
  refine am_icmp_ge (pc := 81) 176 dX7_layBits_81 (by decide) (fun c => ?_) (fun c => ?_)
  · replace h := h.1 c
    exact am_return rfl dX7_layBits_176 h
  · replace h := h.2 c
    refine am_iload_n (pc := 84) 1 dX7_layBits_84 rfl rfl ?_
    refine am_bipush (pc := 85) (v := 32) dX7_layBits_85 rfl ?_
    refine am_idiv (pc := 87) dX7_layBits_87 (by decide) ?_
    refine am_istoreE_n (pc := 88) 2 (loc' := [.ref 30, .int v1, .int (v1 / 32), .null, .null]) dX7_layBits_88 rfl (by decide) rfl rfl ?_
    refine am_iload_n (pc := 89) 1 dX7_layBits_89 rfl rfl ?_
    refine am_bipush (pc := 90) (v := 32) dX7_layBits_90 rfl ?_
    refine am_irem (pc := 92) dX7_layBits_92 (by decide) ?_
    refine am_istoreE_n (pc := 93) 3 (loc' := [.ref 30, .int v1, .int (v1 / 32), .int (v1 - v1 / 32 * 32), .null]) dX7_layBits_93 rfl (by decide) rfl rfl ?_
    refine am_iload_n (pc := 94) 2 dX7_layBits_94 rfl rfl ?_
    refine am_iconst (pc := 95) (v := 4) dX7_layBits_95 rfl ?_
    refine am_idiv (pc := 96) dX7_layBits_96 (by decide) ?_
    refine am_aload_n (pc := 97) 0 dX7_layBits_97 rfl rfl ?_
    refine am_getI (pc := 98) (k := 2) cl7 sh30 (by decide) (by decide) f7_74 rfl dX7_layBits_98 ?_
    refine am_icmp_ge (pc := 101) 127 dX7_layBits_101 (by decide) (fun c => ?_) (fun c => ?_)
    · replace h := h.1 c
      exact h
    · replace h := h.2 c
      refine am_iload_n (pc := 104) 3 dX7_layBits_104 rfl rfl ?_
      refine am_iconst (pc := 105) (v := 4) dX7_layBits_105 rfl ?_
      refine am_idiv (pc := 106) dX7_layBits_106 (by decide) ?_
      refine am_aload_n (pc := 107) 0 dX7_layBits_107 rfl rfl ?_
      refine am_getI (pc := 108) (k := 2) cl7 sh30 (by decide) (by decide) f7_74 rfl dX7_layBits_108 ?_
      refine am_icmp_ge (pc := 111) 127 dX7_layBits_111 (by decide) (fun c => ?_) (fun c => ?_)
      · replace h := h.1 c
        exact h
      · replace h := h.2 c
        refine am_iload_n (pc := 114) 2 dX7_layBits_114 rfl rfl ?_
        refine am_iconst (pc := 115) (v := 4) dX7_layBits_115 rfl ?_
        refine am_idiv (pc := 116) dX7_layBits_116 (by decide) ?_
        refine am_iload_n (pc := 117) 3 dX7_layBits_117 rfl rfl ?_
        refine am_iconst (pc := 118) (v := 4) dX7_layBits_118 rfl ?_
        refine am_idiv (pc := 119) dX7_layBits_119 (by decide) ?_
        refine am_icmp_eq (pc := 120) 127 dX7_layBits_120 (by decide) (fun c => ?_) (fun c => ?_)
        · replace h := h.1 c
          exact h
        · replace h := h.2 c
          refine am_iconst (pc := 123) (v := 1) dX7_layBits_123 rfl ?_
          refine am_goto (pc := 124) 128 dX7_layBits_124 (by decide) ?_
          exact h
set_option maxRecDepth 100000 in
set_option maxHeartbeats 4000000 in
theorem sg7_layBits_127 {D : Nat} {mem : am_Mem} {Q : Option Value → am_Mem → Prop} {v1 : Int32} {v2 : Int32} {v3 : Int32} (h : am_J m7_layBits (D + 1) 128 [.ref 30, .int v1, .int v2, .int v3, .null] [.int 0] mem Q) : am_J m7_layBits (D + 1) 127 [.ref 30, .int v1, .int v2, .int v3, .null] [] mem Q := by
  refine am_iconst (pc := 127) (v := 0) dX7_layBits_127 rfl ?_
  exact h
set_option maxRecDepth 100000 in
set_option maxHeartbeats 4000000 in
theorem sg7_layBits_128 {D : Nat} {mem : am_Mem} {Q : Option Value → am_Mem → Prop} {v1 : Int32} {v2 : Int32} {v3 : Int32} {s0 : Int32} (h : vp_in v2 32 ∧ ((s0 = 0 → am_J m7_layBits (D + 1) 167 [.ref 30, .int v1, .null, .null, .null] [.int (mem 40 v2.toNatClampNeg), .int v2, .ref 40] mem Q) ∧ (¬ s0 = 0 → am_Ci m7_clashes D [.ref 30, .int (v2 / 4), .int (v2 - v2 / 4 * 4), .int (v3 / 4), .int (v3 - v3 / 4 * 4)] mem (fun r_1 mem_1 => (r_1 = 0 → am_J m7_layBits (D + 1) 167 [.ref 30, .int v1, .null, .null, .null] [.int (mem 40 v2.toNatClampNeg), .int v2, .ref 40] mem_1 Q) ∧ (¬ r_1 = 0 → am_J m7_layBits (D + 1) 168 [.ref 30, .int v1, .null, .null, .null] [.int ((1 : Int32) <<< (v3 &&& 31)), .int (mem 40 v2.toNatClampNeg), .int v2, .ref 40] mem_1 Q))))) : am_J m7_layBits (D + 1) 128 [.ref 30, .int v1, .int v2, .int v3, .null] [.int s0] mem Q := by
  refine am_istoreE (pc := 128) (loc' := [.ref 30, .int v1, .int v2, .int v3, .int s0]) dX7_layBits_128 (by decide) rfl rfl ?_
  refine am_aload_n (pc := 130) 0 dX7_layBits_130 rfl rfl ?_
  refine am_getR (pc := 131) (k := 17) cl7 sh30 (by decide) (by decide) f7_50 rfl dX7_layBits_131 ?_
  refine am_iload_n (pc := 134) 2 dX7_layBits_134 rfl rfl ?_
  refine am_dup2 (pc := 135) dX7_layBits_135 rfl rfl ?_
  refine am_iald (pc := 136) sh40 (by decide) h.1 dX7_layBits_136 ?_
  replace h := h.2
  refine am_iload (pc := 137) dX7_layBits_137 rfl ?_
  refine am_if_eq (pc := 139) 167 dX7_layBits_139 (by decide) (fun c => ?_) (fun c => ?_)
  · replace h := h.1 c
    exact am_drop [2, 3, 4] h
  · replace h := h.2 c
    refine am_aload_n (pc := 142) 0 dX7_layBits_142 rfl rfl ?_
    refine am_iload_n (pc := 143) 2 dX7_layBits_143 rfl rfl ?_
    refine am_iconst (pc := 144) (v := 4) dX7_layBits_144 rfl ?_
    refine am_idiv (pc := 145) dX7_layBits_145 (by decide) ?_
    refine am_iload_n (pc := 146) 2 dX7_layBits_146 rfl rfl ?_
    refine am_iconst (pc := 147) (v := 4) dX7_layBits_147 rfl ?_
    refine am_irem (pc := 148) dX7_layBits_148 (by decide) ?_
    refine am_iload_n (pc := 149) 3 dX7_layBits_149 rfl rfl ?_
    refine am_iconst (pc := 150) (v := 4) dX7_layBits_150 rfl ?_
    refine am_idiv (pc := 151) dX7_layBits_151 (by decide) ?_
    refine am_iload_n (pc := 152) 3 dX7_layBits_152 rfl rfl ?_
    refine am_iconst (pc := 153) (v := 4) dX7_layBits_153 rfl ?_
    refine am_irem (pc := 154) dX7_layBits_154 (by decide) ?_
    refine am_callV (pc := 155) m7_clashes D 4 [.int (v2 / 4), .int (v2 - v2 / 4 * 4), .int (v3 / 4), .int (v3 - v3 / 4 * 4)] (rest := [.int (mem 40 v2.toNatClampNeg), .int v2, .ref 40]) ok7_clashes (by omega) rfl rfl sh30 (by decide) rfl l7_123 in7_clashes se7_clashes (Nat.le_of_ble_eq_true rfl) dX7_layBits_155 ?_
    refine am_Ci.use h (fun r_1 mem_1 h => ?_)
    show am_J m7_layBits (D + 1) 158 [.ref 30, .int v1, .int v2, .int v3, .int s0] [.int r_1, .int (mem 40 v2.toNatClampNeg), .int v2, .ref 40] mem_1 Q
    refine am_if_eq (pc := 158) 167 dX7_layBits_158 (by decide) (fun c => ?_) (fun c => ?_)
    · replace h := h.1 c
      exact am_drop [2, 3, 4] h
    · replace h := h.2 c
      refine am_iconst (pc := 161) (v := 1) dX7_layBits_161 rfl ?_
      refine am_iload_n (pc := 162) 3 dX7_layBits_162 rfl rfl ?_
      refine am_ishl (pc := 163) dX7_layBits_163 ?_
      refine am_goto (pc := 164) 168 dX7_layBits_164 (by decide) ?_
      exact am_drop [2, 3, 4] h
set_option maxRecDepth 100000 in
set_option maxHeartbeats 4000000 in
theorem sg7_layBits_167 {D : Nat} {mem : am_Mem} {Q : Option Value → am_Mem → Prop} {v1 : Int32} {s0 : Int32} {s1 : Int32} (h : am_J m7_layBits (D + 1) 168 [.ref 30, .int v1, .null, .null, .null] [.int 0, .int s0, .int s1, .ref 40] mem Q) : am_J m7_layBits (D + 1) 167 [.ref 30, .int v1, .null, .null, .null] [.int s0, .int s1, .ref 40] mem Q := by
  refine am_iconst (pc := 167) (v := 0) dX7_layBits_167 rfl ?_
  exact h
set_option maxRecDepth 100000 in
set_option maxHeartbeats 4000000 in
theorem sg7_layBits_168 {D : Nat} {mem : am_Mem} {Q : Option Value → am_Mem → Prop} {v1 : Int32} {s0 : Int32} {s1 : Int32} {s2 : Int32} (h : vp_in s2 32 ∧ (am_J m7_layBits (D + 1) 77 [.ref 30, .int (v1 + 1), .null, .null, .null] [] (am_set mem 40 s2.toNatClampNeg (s1 ||| s0)) Q)) : am_J m7_layBits (D + 1) 168 [.ref 30, .int v1, .null, .null, .null] [.int s0, .int s1, .int s2, .ref 40] mem Q := by
  refine am_ior (pc := 168) dX7_layBits_168 ?_
  refine am_iast (pc := 169) sh40 (by decide) h.1 dX7_layBits_169 ?_
  replace h := h.2
  refine am_iincE (pc := 170) (v := 1) (loc' := [.ref 30, .int (v1 + 1), .null, .null, .null]) dX7_layBits_170 rfl rfl (by decide) rfl rfl ?_
  refine am_goto (pc := 173) 77 dX7_layBits_173 (by decide) ?_
  exact h
set_option maxRecDepth 100000 in
set_option maxHeartbeats 4000000 in
theorem sg7_nextCorner_0 {D : Nat} {mem : am_Mem} {Q : Option Value → am_Mem → Prop} {v1 : Int32} {v2 : Int32} (h : vp_in v1 8 ∧ (am_J m7_nextCorner D 9 [.ref 30, .int v1, .int v2, .int ((mem 38 v1.toNatClampNeg) + (1 : Int32))] [] mem Q)) : am_J m7_nextCorner D 0 [.ref 30, .int v1, .int v2, .null] [] mem Q := by
  refine am_aload_n (pc := 0) 0 dX7_nextCorner_0 rfl rfl ?_
  refine am_getR (pc := 1) (k := 14) cl7 sh30 (by decide) (by decide) f7_44 rfl dX7_nextCorner_1 ?_
  refine am_iload_n (pc := 4) 1 dX7_nextCorner_4 rfl rfl ?_
  refine am_iald (pc := 5) sh38 (by decide) h.1 dX7_nextCorner_5 ?_
  replace h := h.2
  refine am_iconst (pc := 6) (v := 1) dX7_nextCorner_6 rfl ?_
  refine am_iadd (pc := 7) dX7_nextCorner_7 ?_
  refine am_istoreE_n (pc := 8) 3 (loc' := [.ref 30, .int v1, .int v2, .int ((mem 38 v1.toNatClampNeg) + (1 : Int32))]) dX7_nextCorner_8 rfl (by decide) rfl rfl ?_
  exact h
set_option maxRecDepth 100000 in
set_option maxHeartbeats 4000000 in
theorem sg7_nextCorner_9 {D : Nat} {mem : am_Mem} {Q : Option Value → am_Mem → Prop} {v1 : Int32} {v2 : Int32} {v3 : Int32} (h : (4 ≤ v3 → am_J m7_nextCorner D 50 [.ref 30, .int v1, .int v2, .int v3] [] mem Q) ∧ (¬ 4 ≤ v3 → vp_in v1 9 ∧ ((¬ ((((mem 30 16) >>> ((((4 : Int32) * v1) + v3) &&& 31)) &&& (1 : Int32)) &&& (((mem 41 v1.toNatClampNeg) >>> ((((4 : Int32) * v1) + v3) &&& 31)) ^^^ (-1 : Int32))) = 0 → am_J m7_nextCorner D 50 [.ref 30, .int v1, .int v2, .int v3] [] mem Q) ∧ (((((mem 30 16) >>> ((((4 : Int32) * v1) + v3) &&& 31)) &&& (1 : Int32)) &&& (((mem 41 v1.toNatClampNeg) >>> ((((4 : Int32) * v1) + v3) &&& 31)) ^^^ (-1 : Int32))) = 0 → am_J m7_nextCorner D 9 [.ref 30, .int v1, .int v2, .int (v3 + 1)] [] mem Q)))) : am_J m7_nextCorner D 9 [.ref 30, .int v1, .int v2, .int v3] [] mem Q := by
  refine am_iload_n (pc := 9) 3 dX7_nextCorner_9 rfl rfl ?_
  refine am_iconst (pc := 10) (v := 4) dX7_nextCorner_10 rfl ?_
  refine am_icmp_ge (pc := 11) 50 dX7_nextCorner_11 (by decide) (fun c => ?_) (fun c => ?_)
  · replace h := h.1 c
    exact h
  · replace h := h.2 c
    refine am_aload_n (pc := 14) 0 dX7_nextCorner_14 rfl rfl ?_
    refine am_getI (pc := 15) (k := 16) cl7 sh30 (by decide) (by decide) f7_127 rfl dX7_nextCorner_15 ?_
    refine am_iconst (pc := 18) (v := 4) dX7_nextCorner_18 rfl ?_
    refine am_iload_n (pc := 19) 1 dX7_nextCorner_19 rfl rfl ?_
    refine am_imul (pc := 20) dX7_nextCorner_20 ?_
    refine am_iload_n (pc := 21) 3 dX7_nextCorner_21 rfl rfl ?_
    refine am_iadd (pc := 22) dX7_nextCorner_22 ?_
    refine am_ishr (pc := 23) dX7_nextCorner_23 ?_
    refine am_iconst (pc := 24) (v := 1) dX7_nextCorner_24 rfl ?_
    refine am_iand (pc := 25) dX7_nextCorner_25 ?_
    refine am_aload_n (pc := 26) 0 dX7_nextCorner_26 rfl rfl ?_
    refine am_getR (pc := 27) (k := 18) cl7 sh30 (by decide) (by decide) f7_53 rfl dX7_nextCorner_27 ?_
    refine am_iload_n (pc := 30) 1 dX7_nextCorner_30 rfl rfl ?_
    refine am_iald (pc := 31) sh41 (by decide) h.1 dX7_nextCorner_31 ?_
    replace h := h.2
    refine am_iconst (pc := 32) (v := 4) dX7_nextCorner_32 rfl ?_
    refine am_iload_n (pc := 33) 1 dX7_nextCorner_33 rfl rfl ?_
    refine am_imul (pc := 34) dX7_nextCorner_34 ?_
    refine am_iload_n (pc := 35) 3 dX7_nextCorner_35 rfl rfl ?_
    refine am_iadd (pc := 36) dX7_nextCorner_36 ?_
    refine am_ishr (pc := 37) dX7_nextCorner_37 ?_
    refine am_iconst (pc := 38) (v := -1) dX7_nextCorner_38 rfl ?_
    refine am_ixor (pc := 39) dX7_nextCorner_39 ?_
    refine am_iand (pc := 40) dX7_nextCorner_40 ?_
    refine am_if_ne (pc := 41) 50 dX7_nextCorner_41 (by decide) (fun c => ?_) (fun c => ?_)
    · replace h := h.1 c
      exact h
    · replace h := h.2 c
      refine am_iincE (pc := 44) (v := 1) (loc' := [.ref 30, .int v1, .int v2, .int (v3 + 1)]) dX7_nextCorner_44 rfl rfl (by decide) rfl rfl ?_
      refine am_goto (pc := 47) 9 dX7_nextCorner_47 (by decide) ?_
      exact h
set_option maxRecDepth 100000 in
set_option maxHeartbeats 4000000 in
theorem sg7_nextCorner_50 {D : Nat} {mem : am_Mem} {Q : Option Value → am_Mem → Prop} {v1 : Int32} {v2 : Int32} {v3 : Int32} (h : (¬ v3 = 4 → Q (some (.int v3)) mem) ∧ (v3 = 4 → (v2 = 0 → Q (some (.int v3)) mem) ∧ (¬ v2 = 0 → (¬ (((mem 30 13) >>> (v1 &&& 31)) &&& (1 : Int32)) = 0 → Q (some (.int v3)) mem) ∧ ((((mem 30 13) >>> (v1 &&& 31)) &&& (1 : Int32)) = 0 → Q (some (.int 5)) mem)))) : am_J m7_nextCorner D 50 [.ref 30, .int v1, .int v2, .int v3] [] mem Q := by
  refine am_iload_n (pc := 50) 3 dX7_nextCorner_50 rfl rfl ?_
  refine am_iconst (pc := 51) (v := 4) dX7_nextCorner_51 rfl ?_
  refine am_icmp_ne (pc := 52) 74 dX7_nextCorner_52 (by decide) (fun c => ?_) (fun c => ?_)
  · replace h := h.1 c
    refine am_iload_n (pc := 74) 3 dX7_nextCorner_74 rfl rfl ?_
    exact am_ireturn rfl dX7_nextCorner_75 h
  · replace h := h.2 c
    refine am_iload_n (pc := 55) 2 dX7_nextCorner_55 rfl rfl ?_
    refine am_if_eq (pc := 56) 74 dX7_nextCorner_56 (by decide) (fun c => ?_) (fun c => ?_)
    · replace h := h.1 c
      refine am_iload_n (pc := 74) 3 dX7_nextCorner_74 rfl rfl ?_
      exact am_ireturn rfl dX7_nextCorner_75 h
    · replace h := h.2 c
      refine am_aload_n (pc := 59) 0 dX7_nextCorner_59 rfl rfl ?_
      refine am_getI (pc := 60) (k := 13) cl7 sh30 (by decide) (by decide) f7_116 rfl dX7_nextCorner_60 ?_
      refine am_iload_n (pc := 63) 1 dX7_nextCorner_63 rfl rfl ?_
      refine am_ishr (pc := 64) dX7_nextCorner_64 ?_
      refine am_iconst (pc := 65) (v := 1) dX7_nextCorner_65 rfl ?_
      refine am_iand (pc := 66) dX7_nextCorner_66 ?_
      refine am_if_ne (pc := 67) 74 dX7_nextCorner_67 (by decide) (fun c => ?_) (fun c => ?_)
      · replace h := h.1 c
        refine am_iload_n (pc := 74) 3 dX7_nextCorner_74 rfl rfl ?_
        exact am_ireturn rfl dX7_nextCorner_75 h
      · replace h := h.2 c
        refine am_iconst (pc := 70) (v := 5) dX7_nextCorner_70 rfl ?_
        refine am_goto (pc := 71) 75 dX7_nextCorner_71 (by decide) ?_
        exact am_ireturn rfl dX7_nextCorner_75 h
set_option maxRecDepth 100000 in
set_option maxHeartbeats 4000000 in
theorem sg7_layFull_0 {D : Nat} {mem : am_Mem} {Q : Option Value → am_Mem → Prop} {v1 : Int32} (h : am_Cv m7_layBits D [.ref 30] mem (fun mem_1 => am_J m7_layFull (D + 1) 11 [.ref 30, .int v1, .int 0, .null] [] (am_set mem_1 30 19 0) Q)) : am_J m7_layFull (D + 1) 0 [.ref 30, .int v1, .null, .null] [] mem Q := by
  refine am_aload_n (pc := 0) 0 dX7_layFull_0 rfl rfl ?_
  refine am_callV (pc := 1) m7_layBits D 0 [] (rest := []) ok7_layBits (by omega) rfl rfl sh30 (by decide) rfl l7_130 in7_layBits se7_layBits (Nat.le_of_ble_eq_true rfl) dX7_layFull_1 ?_
  refine am_Cv.use h (fun mem_1 h => ?_)
  show am_J m7_layFull (D + 1) 4 [.ref 30, .int v1, .null, .null] [] mem_1 Q
  refine am_aload_n (pc := 4) 0 dX7_layFull_4 rfl rfl ?_
  refine am_iconst (pc := 5) (v := 0) dX7_layFull_5 rfl ?_
  refine am_putI (pc := 6) (k := 19) cl7 sh30 (by decide) (by decide) f7_133 rfl rfl rfl dX7_layFull_6 ?_
  refine am_iconst (pc := 9) (v := 0) dX7_layFull_9 rfl ?_
  refine am_istoreE_n (pc := 10) 2 (loc' := [.ref 30, .int v1, .int 0, .null]) dX7_layFull_10 rfl (by decide) rfl rfl ?_
  exact h
set_option maxRecDepth 100000 in
set_option maxHeartbeats 4000000 in
theorem sg7_layFull_11 {D : Nat} {mem : am_Mem} {Q : Option Value → am_Mem → Prop} {v1 : Int32} {v2 : Int32} (h : (32 ≤ v2 → vp_in (0 : Int32) 8 ∧ (vp_in (0 : Int32) 9 ∧ (am_J m7_layFull (D + 1) 46 [.ref 30, .int v1, .int 0, .null] [] (am_set (am_set mem 38 (0 : Int32).toNatClampNeg (-1)) 41 (0 : Int32).toNatClampNeg 0) Q))) ∧ (¬ 32 ≤ v2 → vp_in v2 32 ∧ (am_J m7_layFull (D + 1) 11 [.ref 30, .int v1, .int (v2 + 1), .null] [] (am_set mem 42 v2.toNatClampNeg 0) Q))) : am_J m7_layFull (D + 1) 11 [.ref 30, .int v1, .int v2, .null] [] mem Q := by
  refine am_iload_n (pc := 11) 2 dX7_layFull_11 rfl rfl ?_
  refine am_bipush (pc := 12) (v := 32) dX7_layFull_12 rfl ?_
  refine am_icmp_ge (pc := 14) 30 dX7_layFull_14 (by decide) (fun c => ?_) (fun c => ?_)
  · replace h := h.1 c
    refine am_iconst (pc := 30) (v := 0) dX7_layFull_30 rfl ?_
    refine am_istoreE_n (pc := 31) 2 (loc' := [.ref 30, .int v1, .int 0, .null]) dX7_layFull_31 rfl (by decide) rfl rfl ?_
    refine am_aload_n (pc := 32) 0 dX7_layFull_32 rfl rfl ?_
    refine am_getR (pc := 33) (k := 14) cl7 sh30 (by decide) (by decide) f7_44 rfl dX7_layFull_33 ?_
    refine am_iconst (pc := 36) (v := 0) dX7_layFull_36 rfl ?_
    refine am_iconst (pc := 37) (v := -1) dX7_layFull_37 rfl ?_
    refine am_iast (pc := 38) sh38 (by decide) h.1 dX7_layFull_38 ?_
    replace h := h.2
    refine am_aload_n (pc := 39) 0 dX7_layFull_39 rfl rfl ?_
    refine am_getR (pc := 40) (k := 18) cl7 sh30 (by decide) (by decide) f7_53 rfl dX7_layFull_40 ?_
    refine am_iconst (pc := 43) (v := 0) dX7_layFull_43 rfl ?_
    refine am_iconst (pc := 44) (v := 0) dX7_layFull_44 rfl ?_
    refine am_iast (pc := 45) sh41 (by decide) h.1 dX7_layFull_45 ?_
    replace h := h.2
    exact h
  · replace h := h.2 c
    refine am_aload_n (pc := 17) 0 dX7_layFull_17 rfl rfl ?_
    refine am_getR (pc := 18) (k := 21) cl7 sh30 (by decide) (by decide) f7_56 rfl dX7_layFull_18 ?_
    refine am_iload_n (pc := 21) 2 dX7_layFull_21 rfl rfl ?_
    refine am_iconst (pc := 22) (v := 0) dX7_layFull_22 rfl ?_
    refine am_iast (pc := 23) sh42 (by decide) h.1 dX7_layFull_23 ?_
    replace h := h.2
    refine am_iincE (pc := 24) (v := 1) (loc' := [.ref 30, .int v1, .int (v2 + 1), .null]) dX7_layFull_24 rfl rfl (by decide) rfl rfl ?_
    refine am_goto (pc := 27) 11 dX7_layFull_27 (by decide) ?_
    exact h
set_option maxRecDepth 100000 in
set_option maxHeartbeats 4000000 in
theorem sg7_layFull_46 {D : Nat} {mem : am_Mem} {Q : Option Value → am_Mem → Prop} {v1 : Int32} {v2 : Int32} (h : (v2 < 0 → am_J m7_layFull (D + 1) 187 [.ref 30, .null, .null, .null] [] mem Q) ∧ (¬ v2 < 0 → (v1 = 0 → am_J m7_layFull (D + 1) 61 [.ref 30, .int v1, .int v2, .null] [] mem Q) ∧ (¬ v1 = 0 → (0 < (mem 30 19) → am_J m7_layFull (D + 1) 187 [.ref 30, .null, .null, .null] [] mem Q) ∧ (¬ 0 < (mem 30 19) → am_J m7_layFull (D + 1) 61 [.ref 30, .int v1, .int v2, .null] [] mem Q)))) : am_J m7_layFull (D + 1) 46 [.ref 30, .int v1, .int v2, .null] [] mem Q := by
  refine am_iload_n (pc := 46) 2 dX7_layFull_46 rfl rfl ?_
  refine am_if_lt (pc := 47) 187 dX7_layFull_47 (by decide) (fun c => ?_) (fun c => ?_)
  · replace h := h.1 c
    exact am_drop [1, 2] h
  · replace h := h.2 c
    refine am_iload_n (pc := 50) 1 dX7_layFull_50 rfl rfl ?_
    refine am_if_eq (pc := 51) 61 dX7_layFull_51 (by decide) (fun c => ?_) (fun c => ?_)
    · replace h := h.1 c
      exact h
    · replace h := h.2 c
      refine am_aload_n (pc := 54) 0 dX7_layFull_54 rfl rfl ?_
      refine am_getI (pc := 55) (k := 19) cl7 sh30 (by decide) (by decide) f7_133 rfl dX7_layFull_55 ?_
      refine am_if_gt (pc := 58) 187 dX7_layFull_58 (by decide) (fun c => ?_) (fun c => ?_)
      · replace h := h.1 c
        exact am_drop [1, 2] h
      · replace h := h.2 c
        exact h
set_option maxRecDepth 100000 in
set_option maxHeartbeats 4000000 in
theorem sg7_layFull_61 {D : Nat} {mem : am_Mem} {Q : Option Value → am_Mem → Prop} {v1 : Int32} {v2 : Int32} (h : (¬ v2 = (mem 30 2) → (¬ (((mem 30 13) >>> (v2 &&& 31)) &&& (1 : Int32)) = 1 → am_Ci m7_nextCorner D [.ref 30, .int v2, .int 1] mem (fun r_1 mem_1 => am_J m7_layFull (D + 1) 177 [.ref 30, .int v1, .int v2, .null] [.int r_1, .int v2, .ref 38] mem_1 Q)) ∧ ((((mem 30 13) >>> (v2 &&& 31)) &&& (1 : Int32)) = 1 → vp_in v2 8 ∧ ((4 ≤ (mem 38 v2.toNatClampNeg) → am_J m7_layFull (D + 1) 177 [.ref 30, .int v1, .int v2, .null] [.int 5, .int v2, .ref 38] mem Q) ∧ (¬ 4 ≤ (mem 38 v2.toNatClampNeg) → am_J m7_layFull (D + 1) 177 [.ref 30, .int v1, .int v2, .null] [.int 4, .int v2, .ref 38] mem Q)))) ∧ (v2 = (mem 30 2) → am_J m7_layFull (D + 1) 81 [.ref 30, .int v1, .int v2, .int 0] [] (am_set mem 30 19 ((mem 30 19) + (1 : Int32))) Q)) : am_J m7_layFull (D + 1) 61 [.ref 30, .int v1, .int v2, .null] [] mem Q := by
  refine am_iload_n (pc := 61) 2 dX7_layFull_61 rfl rfl ?_
  refine am_aload_n (pc := 62) 0 dX7_layFull_62 rfl rfl ?_
  refine am_getI (pc := 63) (k := 2) cl7 sh30 (by decide) (by decide) f7_74 rfl dX7_layFull_63 ?_
  refine am_icmp_ne (pc := 66) 136 dX7_layFull_66 (by decide) (fun c => ?_) (fun c => ?_)
  · replace h := h.1 c
    refine am_aload_n (pc := 136) 0 dX7_layFull_136 rfl rfl ?_
    refine am_getR (pc := 137) (k := 14) cl7 sh30 (by decide) (by decide) f7_44 rfl dX7_layFull_137 ?_
    refine am_iload_n (pc := 140) 2 dX7_layFull_140 rfl rfl ?_
    refine am_aload_n (pc := 141) 0 dX7_layFull_141 rfl rfl ?_
    refine am_getI (pc := 142) (k := 13) cl7 sh30 (by decide) (by decide) f7_116 rfl dX7_layFull_142 ?_
    refine am_iload_n (pc := 145) 2 dX7_layFull_145 rfl rfl ?_
    refine am_ishr (pc := 146) dX7_layFull_146 ?_
    refine am_iconst (pc := 147) (v := 1) dX7_layFull_147 rfl ?_
    refine am_iand (pc := 148) dX7_layFull_148 ?_
    refine am_iconst (pc := 149) (v := 1) dX7_layFull_149 rfl ?_
    refine am_icmp_ne (pc := 150) 171 dX7_layFull_150 (by decide) (fun c => ?_) (fun c => ?_)
    · replace h := h.1 c
      refine am_aload_n (pc := 171) 0 dX7_layFull_171 rfl rfl ?_
      refine am_iload_n (pc := 172) 2 dX7_layFull_172 rfl rfl ?_
      refine am_iconst (pc := 173) (v := 1) dX7_layFull_173 rfl ?_
      refine am_callV (pc := 174) m7_nextCorner D 2 [.int v2, .int 1] (rest := [.int v2, .ref 38]) ok7_nextCorner (by omega) rfl rfl sh30 (by decide) rfl l7_136 in7_nextCorner se7_nextCorner (Nat.le_of_ble_eq_true rfl) dX7_layFull_174 ?_
      refine am_Ci.use h (fun r_1 mem_1 h => ?_)
      show am_J m7_layFull (D + 1) 177 [.ref 30, .int v1, .int v2, .null] [.int r_1, .int v2, .ref 38] mem_1 Q
      exact h
    · replace h := h.2 c
      refine am_aload_n (pc := 153) 0 dX7_layFull_153 rfl rfl ?_
      refine am_getR (pc := 154) (k := 14) cl7 sh30 (by decide) (by decide) f7_44 rfl dX7_layFull_154 ?_
      refine am_iload_n (pc := 157) 2 dX7_layFull_157 rfl rfl ?_
      refine am_iald (pc := 158) sh38 (by decide) h.1 dX7_layFull_158 ?_
      replace h := h.2
      refine am_iconst (pc := 159) (v := 4) dX7_layFull_159 rfl ?_
      refine am_icmp_ge (pc := 160) 167 dX7_layFull_160 (by decide) (fun c => ?_) (fun c => ?_)
      · replace h := h.1 c
        refine am_iconst (pc := 167) (v := 5) dX7_layFull_167 rfl ?_
        refine am_goto (pc := 168) 177 dX7_layFull_168 (by decide) ?_
        exact h
      · replace h := h.2 c
        refine am_iconst (pc := 163) (v := 4) dX7_layFull_163 rfl ?_
        refine am_goto (pc := 164) 177 dX7_layFull_164 (by decide) ?_
        exact h
  · replace h := h.2 c
    refine am_aload_n (pc := 69) 0 dX7_layFull_69 rfl rfl ?_
    refine am_dup (pc := 70) dX7_layFull_70 rfl ?_
    refine am_getI (pc := 71) (k := 19) cl7 sh30 (by decide) (by decide) f7_133 rfl dX7_layFull_71 ?_
    refine am_iconst (pc := 74) (v := 1) dX7_layFull_74 rfl ?_
    refine am_iadd (pc := 75) dX7_layFull_75 ?_
    refine am_putI (pc := 76) (k := 19) cl7 sh30 (by decide) (by decide) f7_133 rfl rfl rfl dX7_layFull_76 ?_
    refine am_iconst (pc := 79) (v := 0) dX7_layFull_79 rfl ?_
    refine am_istoreE_n (pc := 80) 3 (loc' := [.ref 30, .int v1, .int v2, .int 0]) dX7_layFull_80 rfl (by decide) rfl rfl ?_
    exact h
set_option maxRecDepth 100000 in
set_option maxHeartbeats 4000000 in
theorem sg7_layFull_81 {D : Nat} {mem : am_Mem} {Q : Option Value → am_Mem → Prop} {v1 : Int32} {v2 : Int32} {v3 : Int32} (h : ((mem 30 2) ≤ v3 → am_J m7_layFull (D + 1) 46 [.ref 30, .int v1, .int (v2 + (-1)), .null] [] mem Q) ∧ (¬ (mem 30 2) ≤ v3 → vp_in v3 8 ∧ (vp_in (((4 : Int32) * v3) + ((mem 38 v3.toNatClampNeg) - (mem 38 v3.toNatClampNeg) / 4 * 4)) 32 ∧ (vp_in v3 8 ∧ ((4 ≤ (mem 38 v3.toNatClampNeg) → am_J m7_layFull (D + 1) 122 [.ref 30, .int v1, .int v2, .int v3] [.int 0, .int (mem 42 (((4 : Int32) * v3) + ((mem 38 v3.toNatClampNeg) - (mem 38 v3.toNatClampNeg) / 4 * 4)).toNatClampNeg), .int (((4 : Int32) * v3) + ((mem 38 v3.toNatClampNeg) - (mem 38 v3.toNatClampNeg) / 4 * 4)), .ref 42] mem Q) ∧ (¬ 4 ≤ (mem 38 v3.toNatClampNeg) → am_J m7_layFull (D + 1) 122 [.ref 30, .int v1, .int v2, .int v3] [.int 1, .int (mem 42 (((4 : Int32) * v3) + ((mem 38 v3.toNatClampNeg) - (mem 38 v3.toNatClampNeg) / 4 * 4)).toNatClampNeg), .int (((4 : Int32) * v3) + ((mem 38 v3.toNatClampNeg) - (mem 38 v3.toNatClampNeg) / 4 * 4)), .ref 42] mem Q)))))) : am_J m7_layFull (D + 1) 81 [.ref 30, .int v1, .int v2, .int v3] [] mem Q := by
  refine am_iload_n (pc := 81) 3 dX7_layFull_81 rfl rfl ?_
  refine am_aload_n (pc := 82) 0 dX7_layFull_82 rfl rfl ?_
  refine am_getI (pc := 83) (k := 2) cl7 sh30 (by decide) (by decide) f7_74 rfl dX7_layFull_83 ?_
  refine am_icmp_ge (pc := 86) 130 dX7_layFull_86 (by decide) (fun c => ?_) (fun c => ?_)
  · replace h := h.1 c
    refine am_iincE (pc := 130) (v := -1) (loc' := [.ref 30, .int v1, .int (v2 + (-1)), .int v3]) dX7_layFull_130 rfl rfl (by decide) rfl rfl ?_
    refine am_goto (pc := 133) 46 dX7_layFull_133 (by decide) ?_
    exact am_drop [3] h
  · replace h := h.2 c
    refine am_aload_n (pc := 89) 0 dX7_layFull_89 rfl rfl ?_
    refine am_getR (pc := 90) (k := 21) cl7 sh30 (by decide) (by decide) f7_56 rfl dX7_layFull_90 ?_
    refine am_iconst (pc := 93) (v := 4) dX7_layFull_93 rfl ?_
    refine am_iload_n (pc := 94) 3 dX7_layFull_94 rfl rfl ?_
    refine am_imul (pc := 95) dX7_layFull_95 ?_
    refine am_aload_n (pc := 96) 0 dX7_layFull_96 rfl rfl ?_
    refine am_getR (pc := 97) (k := 14) cl7 sh30 (by decide) (by decide) f7_44 rfl dX7_layFull_97 ?_
    refine am_iload_n (pc := 100) 3 dX7_layFull_100 rfl rfl ?_
    refine am_iald (pc := 101) sh38 (by decide) h.1 dX7_layFull_101 ?_
    replace h := h.2
    refine am_iconst (pc := 102) (v := 4) dX7_layFull_102 rfl ?_
    refine am_irem (pc := 103) dX7_layFull_103 (by decide) ?_
    refine am_iadd (pc := 104) dX7_layFull_104 ?_
    refine am_dup2 (pc := 105) dX7_layFull_105 rfl rfl ?_
    refine am_iald (pc := 106) sh42 (by decide) h.1 dX7_layFull_106 ?_
    replace h := h.2
    refine am_aload_n (pc := 107) 0 dX7_layFull_107 rfl rfl ?_
    refine am_getR (pc := 108) (k := 14) cl7 sh30 (by decide) (by decide) f7_44 rfl dX7_layFull_108 ?_
    refine am_iload_n (pc := 111) 3 dX7_layFull_111 rfl rfl ?_
    refine am_iald (pc := 112) sh38 (by decide) h.1 dX7_layFull_112 ?_
    replace h := h.2
    refine am_iconst (pc := 113) (v := 4) dX7_layFull_113 rfl ?_
    refine am_icmp_ge (pc := 114) 121 dX7_layFull_114 (by decide) (fun c => ?_) (fun c => ?_)
    · replace h := h.1 c
      refine am_iconst (pc := 121) (v := 0) dX7_layFull_121 rfl ?_
      exact h
    · replace h := h.2 c
      refine am_iconst (pc := 117) (v := 1) dX7_layFull_117 rfl ?_
      refine am_goto (pc := 118) 122 dX7_layFull_118 (by decide) ?_
      exact h
set_option maxRecDepth 100000 in
set_option maxHeartbeats 4000000 in
theorem sg7_layFull_122 {D : Nat} {mem : am_Mem} {Q : Option Value → am_Mem → Prop} {v1 : Int32} {v2 : Int32} {v3 : Int32} {s0 : Int32} {s1 : Int32} {s2 : Int32} (h : vp_in s2 32 ∧ (am_J m7_layFull (D + 1) 81 [.ref 30, .int v1, .int v2, .int (v3 + 1)] [] (am_set mem 42 s2.toNatClampNeg (s1 + s0)) Q)) : am_J m7_layFull (D + 1) 122 [.ref 30, .int v1, .int v2, .int v3] [.int s0, .int s1, .int s2, .ref 42] mem Q := by
  refine am_iadd (pc := 122) dX7_layFull_122 ?_
  refine am_iast (pc := 123) sh42 (by decide) h.1 dX7_layFull_123 ?_
  replace h := h.2
  refine am_iincE (pc := 124) (v := 1) (loc' := [.ref 30, .int v1, .int v2, .int (v3 + 1)]) dX7_layFull_124 rfl rfl (by decide) rfl rfl ?_
  refine am_goto (pc := 127) 81 dX7_layFull_127 (by decide) ?_
  exact h
set_option maxRecDepth 100000 in
set_option maxHeartbeats 4000000 in
theorem sg7_layFull_177 {D : Nat} {mem : am_Mem} {Q : Option Value → am_Mem → Prop} {v1 : Int32} {v2 : Int32} {s0 : Int32} {s1 : Int32} (h : vp_in s1 8 ∧ (am_Ci m7_step D [.ref 30, .int v2] (am_set mem 38 s1.toNatClampNeg s0) (fun r_1 mem_1 => am_J m7_layFull (D + 1) 46 [.ref 30, .int v1, .int r_1, .null] [] mem_1 Q))) : am_J m7_layFull (D + 1) 177 [.ref 30, .int v1, .int v2, .null] [.int s0, .int s1, .ref 38] mem Q := by
  refine am_iast (pc := 177) sh38 (by decide) h.1 dX7_layFull_177 ?_
  replace h := h.2
  refine am_aload_n (pc := 178) 0 dX7_layFull_178 rfl rfl ?_
  refine am_iload_n (pc := 179) 2 dX7_layFull_179 rfl rfl ?_
  refine am_callV (pc := 180) m7_step D 1 [.int v2] (rest := []) ok7_step (by omega) rfl rfl sh30 (by decide) rfl l7_140 in7_step se7_step (Nat.le_of_ble_eq_true rfl) dX7_layFull_180 ?_
  refine am_Ci.use h (fun r_1 mem_1 h => ?_)
  show am_J m7_layFull (D + 1) 183 [.ref 30, .int v1, .int v2, .null] [.int r_1] mem_1 Q
  refine am_istoreE_n (pc := 183) 2 (loc' := [.ref 30, .int v1, .int r_1, .null]) dX7_layFull_183 rfl (by decide) rfl rfl ?_
  refine am_goto (pc := 184) 46 dX7_layFull_184 (by decide) ?_
  exact h
set_option maxRecDepth 100000 in
set_option maxHeartbeats 4000000 in
theorem sg7_layFull_187 {D : Nat} {mem : am_Mem} {Q : Option Value → am_Mem → Prop}  (h : ((mem 30 19) ≤ 0 → Q (some (.int 0)) mem) ∧ (¬ (mem 30 19) ≤ 0 → Q (some (.int 1)) mem)) : am_J m7_layFull (D + 1) 187 [.ref 30, .null, .null, .null] [] mem Q := by
  refine am_aload_n (pc := 187) 0 dX7_layFull_187 rfl rfl ?_
  refine am_getI (pc := 188) (k := 19) cl7 sh30 (by decide) (by decide) f7_133 rfl dX7_layFull_188 ?_
  refine am_if_le (pc := 191) 198 dX7_layFull_191 (by decide) (fun c => ?_) (fun c => ?_)
  · replace h := h.1 c
    refine am_iconst (pc := 198) (v := 0) dX7_layFull_198 rfl ?_
    exact am_zreturn rfl (by decide) dX7_layFull_199 h
  · replace h := h.2 c
    refine am_iconst (pc := 194) (v := 1) dX7_layFull_194 rfl ?_
    refine am_goto (pc := 195) 199 dX7_layFull_195 (by decide) ?_
    exact am_zreturn rfl (by decide) dX7_layFull_199 h
set_option maxRecDepth 100000 in
set_option maxHeartbeats 4000000 in
theorem sg7_step_0 {D : Nat} {mem : am_Mem} {Q : Option Value → am_Mem → Prop} {v1 : Int32} (h : vp_in v1 8 ∧ (((mem 38 v1.toNatClampNeg) ≤ 4 → vp_in v1 9 ∧ (vp_in v1 8 ∧ ((4 ≤ (mem 38 v1.toNatClampNeg) → am_J m7_step D 56 [.ref 30, .int v1] [.int 0, .int (mem 41 v1.toNatClampNeg), .int (v1 + (1 : Int32)), .ref 41] mem Q) ∧ (¬ 4 ≤ (mem 38 v1.toNatClampNeg) → vp_in v1 8 ∧ (vp_in (((4 : Int32) * v1) + (mem 38 v1.toNatClampNeg)) 32 ∧ (am_J m7_step D 56 [.ref 30, .int v1] [.int (mem 40 (((4 : Int32) * v1) + (mem 38 v1.toNatClampNeg)).toNatClampNeg), .int (mem 41 v1.toNatClampNeg), .int (v1 + (1 : Int32)), .ref 41] mem Q)))))) ∧ (¬ (mem 38 v1.toNatClampNeg) ≤ 4 → Q (some (.int (v1 - (1 : Int32)))) mem))) : am_J m7_step D 0 [.ref 30, .int v1] [] mem Q := by
  refine am_aload_n (pc := 0) 0 dX7_step_0 rfl rfl ?_
  refine am_getR (pc := 1) (k := 14) cl7 sh30 (by decide) (by decide) f7_44 rfl dX7_step_1 ?_
  refine am_iload_n (pc := 4) 1 dX7_step_4 rfl rfl ?_
  refine am_iald (pc := 5) sh38 (by decide) h.1 dX7_step_5 ?_
  replace h := h.2
  refine am_iconst (pc := 6) (v := 4) dX7_step_6 rfl ?_
  refine am_icmp_le (pc := 7) 14 dX7_step_7 (by decide) (fun c => ?_) (fun c => ?_)
  · replace h := h.1 c
    refine am_aload_n (pc := 14) 0 dX7_step_14 rfl rfl ?_
    refine am_getR (pc := 15) (k := 18) cl7 sh30 (by decide) (by decide) f7_53 rfl dX7_step_15 ?_
    refine am_iload_n (pc := 18) 1 dX7_step_18 rfl rfl ?_
    refine am_iconst (pc := 19) (v := 1) dX7_step_19 rfl ?_
    refine am_iadd (pc := 20) dX7_step_20 ?_
    refine am_aload_n (pc := 21) 0 dX7_step_21 rfl rfl ?_
    refine am_getR (pc := 22) (k := 18) cl7 sh30 (by decide) (by decide) f7_53 rfl dX7_step_22 ?_
    refine am_iload_n (pc := 25) 1 dX7_step_25 rfl rfl ?_
    refine am_iald (pc := 26) sh41 (by decide) h.1 dX7_step_26 ?_
    replace h := h.2
    refine am_aload_n (pc := 27) 0 dX7_step_27 rfl rfl ?_
    refine am_getR (pc := 28) (k := 14) cl7 sh30 (by decide) (by decide) f7_44 rfl dX7_step_28 ?_
    refine am_iload_n (pc := 31) 1 dX7_step_31 rfl rfl ?_
    refine am_iald (pc := 32) sh38 (by decide) h.1 dX7_step_32 ?_
    replace h := h.2
    refine am_iconst (pc := 33) (v := 4) dX7_step_33 rfl ?_
    refine am_icmp_ge (pc := 34) 55 dX7_step_34 (by decide) (fun c => ?_) (fun c => ?_)
    · replace h := h.1 c
      refine am_iconst (pc := 55) (v := 0) dX7_step_55 rfl ?_
      exact h
    · replace h := h.2 c
      refine am_aload_n (pc := 37) 0 dX7_step_37 rfl rfl ?_
      refine am_getR (pc := 38) (k := 17) cl7 sh30 (by decide) (by decide) f7_50 rfl dX7_step_38 ?_
      refine am_iconst (pc := 41) (v := 4) dX7_step_41 rfl ?_
      refine am_iload_n (pc := 42) 1 dX7_step_42 rfl rfl ?_
      refine am_imul (pc := 43) dX7_step_43 ?_
      refine am_aload_n (pc := 44) 0 dX7_step_44 rfl rfl ?_
      refine am_getR (pc := 45) (k := 14) cl7 sh30 (by decide) (by decide) f7_44 rfl dX7_step_45 ?_
      refine am_iload_n (pc := 48) 1 dX7_step_48 rfl rfl ?_
      refine am_iald (pc := 49) sh38 (by decide) h.1 dX7_step_49 ?_
      replace h := h.2
      refine am_iadd (pc := 50) dX7_step_50 ?_
      refine am_iald (pc := 51) sh40 (by decide) h.1 dX7_step_51 ?_
      replace h := h.2
      refine am_goto (pc := 52) 56 dX7_step_52 (by decide) ?_
      exact h
  · replace h := h.2 c
    refine am_iload_n (pc := 10) 1 dX7_step_10 rfl rfl ?_
    refine am_iconst (pc := 11) (v := 1) dX7_step_11 rfl ?_
    refine am_isub (pc := 12) dX7_step_12 ?_
    exact am_ireturn rfl dX7_step_13 h
set_option maxRecDepth 100000 in
set_option maxHeartbeats 4000000 in
theorem sg7_step_56 {D : Nat} {mem : am_Mem} {Q : Option Value → am_Mem → Prop} {v1 : Int32} {s0 : Int32} {s1 : Int32} {s2 : Int32} (h : vp_in s2 9 ∧ ((((am_set mem 41 s2.toNatClampNeg (s1 ||| s0)) 30 2) ≤ (v1 + (1 : Int32)) → Q (some (.int (v1 + (1 : Int32)))) (am_set mem 41 s2.toNatClampNeg (s1 ||| s0))) ∧ (¬ ((am_set mem 41 s2.toNatClampNeg (s1 ||| s0)) 30 2) ≤ (v1 + (1 : Int32)) → vp_in (v1 + (1 : Int32)) 8 ∧ (Q (some (.int (v1 + (1 : Int32)))) (am_set (am_set mem 41 s2.toNatClampNeg (s1 ||| s0)) 38 (v1 + (1 : Int32)).toNatClampNeg (-1)))))) : am_J m7_step D 56 [.ref 30, .int v1] [.int s0, .int s1, .int s2, .ref 41] mem Q := by
  refine am_ior (pc := 56) dX7_step_56 ?_
  refine am_iast (pc := 57) sh41 (by decide) h.1 dX7_step_57 ?_
  replace h := h.2
  refine am_iload_n (pc := 58) 1 dX7_step_58 rfl rfl ?_
  refine am_iconst (pc := 59) (v := 1) dX7_step_59 rfl ?_
  refine am_iadd (pc := 60) dX7_step_60 ?_
  refine am_aload_n (pc := 61) 0 dX7_step_61 rfl rfl ?_
  refine am_getI (pc := 62) (k := 2) cl7 sh30 (by decide) (by decide) f7_74 rfl dX7_step_62 ?_
  refine am_icmp_ge (pc := 65) 77 dX7_step_65 (by decide) (fun c => ?_) (fun c => ?_)
  · replace h := h.1 c
    refine am_iload_n (pc := 77) 1 dX7_step_77 rfl rfl ?_
    refine am_iconst (pc := 78) (v := 1) dX7_step_78 rfl ?_
    refine am_iadd (pc := 79) dX7_step_79 ?_
    exact am_ireturn rfl dX7_step_80 h
  · replace h := h.2 c
    refine am_aload_n (pc := 68) 0 dX7_step_68 rfl rfl ?_
    refine am_getR (pc := 69) (k := 14) cl7 sh30 (by decide) (by decide) f7_44 rfl dX7_step_69 ?_
    refine am_iload_n (pc := 72) 1 dX7_step_72 rfl rfl ?_
    refine am_iconst (pc := 73) (v := 1) dX7_step_73 rfl ?_
    refine am_iadd (pc := 74) dX7_step_74 ?_
    refine am_iconst (pc := 75) (v := -1) dX7_step_75 rfl ?_
    refine am_iast (pc := 76) sh38 (by decide) h.1 dX7_step_76 ?_
    replace h := h.2
    refine am_iload_n (pc := 77) 1 dX7_step_77 rfl rfl ?_
    refine am_iconst (pc := 78) (v := 1) dX7_step_78 rfl ?_
    refine am_iadd (pc := 79) dX7_step_79 ?_
    exact am_ireturn rfl dX7_step_80 h
set_option maxRecDepth 100000 in
set_option maxHeartbeats 4000000 in
theorem sg7_layBest_0 {D : Nat} {mem : am_Mem} {Q : Option Value → am_Mem → Prop}  (h : am_Cv m7_layBits D [.ref 30] mem (fun mem_1 => vp_in (0 : Int32) 8 ∧ (vp_in (0 : Int32) 9 ∧ (am_J m7_layBest (D + 1) 25 [.ref 30, .int 0, .null, .null] [] (am_set (am_set (am_set mem_1 30 20 (-1)) 38 (0 : Int32).toNatClampNeg (-1)) 41 (0 : Int32).toNatClampNeg 0) Q)))) : am_J m7_layBest (D + 1) 0 [.ref 30, .null, .null, .null] [] mem Q := by
  refine am_aload_n (pc := 0) 0 dX7_layBest_0 rfl rfl ?_
  refine am_callV (pc := 1) m7_layBits D 0 [] (rest := []) ok7_layBits (by omega) rfl rfl sh30 (by decide) rfl l7_130 in7_layBits se7_layBits (Nat.le_of_ble_eq_true rfl) dX7_layBest_1 ?_
  refine am_Cv.use h (fun mem_1 h => ?_)
  show am_J m7_layBest (D + 1) 4 [.ref 30, .null, .null, .null] [] mem_1 Q
  refine am_aload_n (pc := 4) 0 dX7_layBest_4 rfl rfl ?_
  refine am_iconst (pc := 5) (v := -1) dX7_layBest_5 rfl ?_
  refine am_putI (pc := 6) (k := 20) cl7 sh30 (by decide) (by decide) f7_143 rfl rfl rfl dX7_layBest_6 ?_
  refine am_iconst (pc := 9) (v := 0) dX7_layBest_9 rfl ?_
  refine am_istoreE_n (pc := 10) 1 (loc' := [.ref 30, .int 0, .null, .null]) dX7_layBest_10 rfl (by decide) rfl rfl ?_
  refine am_aload_n (pc := 11) 0 dX7_layBest_11 rfl rfl ?_
  refine am_getR (pc := 12) (k := 14) cl7 sh30 (by decide) (by decide) f7_44 rfl dX7_layBest_12 ?_
  refine am_iconst (pc := 15) (v := 0) dX7_layBest_15 rfl ?_
  refine am_iconst (pc := 16) (v := -1) dX7_layBest_16 rfl ?_
  refine am_iast (pc := 17) sh38 (by decide) h.1 dX7_layBest_17 ?_
  replace h := h.2
  refine am_aload_n (pc := 18) 0 dX7_layBest_18 rfl rfl ?_
  refine am_getR (pc := 19) (k := 18) cl7 sh30 (by decide) (by decide) f7_53 rfl dX7_layBest_19 ?_
  refine am_iconst (pc := 22) (v := 0) dX7_layBest_22 rfl ?_
  refine am_iconst (pc := 23) (v := 0) dX7_layBest_23 rfl ?_
  refine am_iast (pc := 24) sh41 (by decide) h.1 dX7_layBest_24 ?_
  replace h := h.2
  exact h
set_option maxRecDepth 100000 in
set_option maxHeartbeats 4000000 in
theorem sg7_layBest_25 {D : Nat} {mem : am_Mem} {Q : Option Value → am_Mem → Prop} {v1 : Int32} (h : (v1 < 0 → Q none mem) ∧ (¬ v1 < 0 → (¬ v1 = (mem 30 2) → vp_in v1 8 ∧ ((¬ (mem 38 v1.toNatClampNeg) = 4 → am_Ci m7_nextCorner D [.ref 30, .int v1, .int 0] mem (fun r_1 mem_1 => am_J m7_layBest (D + 1) 180 [.ref 30, .int v1, .null, .null] [.int r_1, .int v1, .ref 38] mem_1 Q)) ∧ ((mem 38 v1.toNatClampNeg) = 4 → am_J m7_layBest (D + 1) 180 [.ref 30, .int v1, .null, .null] [.int 5, .int v1, .ref 38] mem Q))) ∧ (v1 = (mem 30 2) → am_J m7_layBest (D + 1) 41 [.ref 30, .int v1, .int 0, .int 0] [] mem Q))) : am_J m7_layBest (D + 1) 25 [.ref 30, .int v1, .null, .null] [] mem Q := by
  refine am_iload_n (pc := 25) 1 dX7_layBest_25 rfl rfl ?_
  refine am_if_lt (pc := 26) 190 dX7_layBest_26 (by decide) (fun c => ?_) (fun c => ?_)
  · replace h := h.1 c
    exact am_return rfl dX7_layBest_190 h
  · replace h := h.2 c
    refine am_iload_n (pc := 29) 1 dX7_layBest_29 rfl rfl ?_
    refine am_aload_n (pc := 30) 0 dX7_layBest_30 rfl rfl ?_
    refine am_getI (pc := 31) (k := 2) cl7 sh30 (by decide) (by decide) f7_74 rfl dX7_layBest_31 ?_
    refine am_icmp_ne (pc := 34) 155 dX7_layBest_34 (by decide) (fun c => ?_) (fun c => ?_)
    · replace h := h.1 c
      refine am_aload_n (pc := 155) 0 dX7_layBest_155 rfl rfl ?_
      refine am_getR (pc := 156) (k := 14) cl7 sh30 (by decide) (by decide) f7_44 rfl dX7_layBest_156 ?_
      refine am_iload_n (pc := 159) 1 dX7_layBest_159 rfl rfl ?_
      refine am_aload_n (pc := 160) 0 dX7_layBest_160 rfl rfl ?_
      refine am_getR (pc := 161) (k := 14) cl7 sh30 (by decide) (by decide) f7_44 rfl dX7_layBest_161 ?_
      refine am_iload_n (pc := 164) 1 dX7_layBest_164 rfl rfl ?_
      refine am_iald (pc := 165) sh38 (by decide) h.1 dX7_layBest_165 ?_
      replace h := h.2
      refine am_iconst (pc := 166) (v := 4) dX7_layBest_166 rfl ?_
      refine am_icmp_ne (pc := 167) 174 dX7_layBest_167 (by decide) (fun c => ?_) (fun c => ?_)
      · replace h := h.1 c
        refine am_aload_n (pc := 174) 0 dX7_layBest_174 rfl rfl ?_
        refine am_iload_n (pc := 175) 1 dX7_layBest_175 rfl rfl ?_
        refine am_iconst (pc := 176) (v := 0) dX7_layBest_176 rfl ?_
        refine am_callV (pc := 177) m7_nextCorner D 2 [.int v1, .int 0] (rest := [.int v1, .ref 38]) ok7_nextCorner (by omega) rfl rfl sh30 (by decide) rfl l7_136 in7_nextCorner se7_nextCorner (Nat.le_of_ble_eq_true rfl) dX7_layBest_177 ?_
        refine am_Ci.use h (fun r_1 mem_1 h => ?_)
        show am_J m7_layBest (D + 1) 180 [.ref 30, .int v1, .null, .null] [.int r_1, .int v1, .ref 38] mem_1 Q
        exact h
      · replace h := h.2 c
        refine am_iconst (pc := 170) (v := 5) dX7_layBest_170 rfl ?_
        refine am_goto (pc := 171) 180 dX7_layBest_171 (by decide) ?_
        exact h
    · replace h := h.2 c
      refine am_iconst (pc := 37) (v := 0) dX7_layBest_37 rfl ?_
      refine am_istoreE_n (pc := 38) 2 (loc' := [.ref 30, .int v1, .int 0, .null]) dX7_layBest_38 rfl (by decide) rfl rfl ?_
      refine am_iconst (pc := 39) (v := 0) dX7_layBest_39 rfl ?_
      refine am_istoreE_n (pc := 40) 3 (loc' := [.ref 30, .int v1, .int 0, .int 0]) dX7_layBest_40 rfl (by decide) rfl rfl ?_
      exact h
set_option maxRecDepth 100000 in
set_option maxHeartbeats 4000000 in
theorem sg7_layBest_41 {D : Nat} {mem : am_Mem} {Q : Option Value → am_Mem → Prop} {v1 : Int32} {v2 : Int32} {v3 : Int32} (h : ((mem 30 2) ≤ v3 → am_J m7_layBest (D + 1) 80 [.ref 30, .int v1, .int v2, .int 0] [] mem Q) ∧ (¬ (mem 30 2) ≤ v3 → vp_in v3 8 ∧ ((4 ≤ (mem 38 v3.toNatClampNeg) → am_J m7_layBest (D + 1) 70 [.ref 30, .int v1, .null, .int v3] [.int 0, .int v2] mem Q) ∧ (¬ 4 ≤ (mem 38 v3.toNatClampNeg) → vp_in v3 8 ∧ (am_J m7_layBest (D + 1) 70 [.ref 30, .int v1, .null, .int v3] [.int (mem 35 v3.toNatClampNeg), .int v2] mem Q))))) : am_J m7_layBest (D + 1) 41 [.ref 30, .int v1, .int v2, .int v3] [] mem Q := by
  refine am_iload_n (pc := 41) 3 dX7_layBest_41 rfl rfl ?_
  refine am_aload_n (pc := 42) 0 dX7_layBest_42 rfl rfl ?_
  refine am_getI (pc := 43) (k := 2) cl7 sh30 (by decide) (by decide) f7_74 rfl dX7_layBest_43 ?_
  refine am_icmp_ge (pc := 46) 78 dX7_layBest_46 (by decide) (fun c => ?_) (fun c => ?_)
  · replace h := h.1 c
    refine am_iconst (pc := 78) (v := 0) dX7_layBest_78 rfl ?_
    refine am_istoreE_n (pc := 79) 3 (loc' := [.ref 30, .int v1, .int v2, .int 0]) dX7_layBest_79 rfl (by decide) rfl rfl ?_
    exact h
  · replace h := h.2 c
    refine am_iload_n (pc := 49) 2 dX7_layBest_49 rfl rfl ?_
    refine am_aload_n (pc := 50) 0 dX7_layBest_50 rfl rfl ?_
    refine am_getR (pc := 51) (k := 14) cl7 sh30 (by decide) (by decide) f7_44 rfl dX7_layBest_51 ?_
    refine am_iload_n (pc := 54) 3 dX7_layBest_54 rfl rfl ?_
    refine am_iald (pc := 55) sh38 (by decide) h.1 dX7_layBest_55 ?_
    replace h := h.2
    refine am_iconst (pc := 56) (v := 4) dX7_layBest_56 rfl ?_
    refine am_icmp_ge (pc := 57) 69 dX7_layBest_57 (by decide) (fun c => ?_) (fun c => ?_)
    · replace h := h.1 c
      refine am_iconst (pc := 69) (v := 0) dX7_layBest_69 rfl ?_
      exact am_drop [2] h
    · replace h := h.2 c
      refine am_aload_n (pc := 60) 0 dX7_layBest_60 rfl rfl ?_
      refine am_getR (pc := 61) (k := 7) cl7 sh30 (by decide) (by decide) f7_29 rfl dX7_layBest_61 ?_
      refine am_iload_n (pc := 64) 3 dX7_layBest_64 rfl rfl ?_
      refine am_iald (pc := 65) sh35 (by decide) h.1 dX7_layBest_65 ?_
      replace h := h.2
      refine am_goto (pc := 66) 70 dX7_layBest_66 (by decide) ?_
      exact am_drop [2] h
set_option maxRecDepth 100000 in
set_option maxHeartbeats 4000000 in
theorem sg7_layBest_70 {D : Nat} {mem : am_Mem} {Q : Option Value → am_Mem → Prop} {v1 : Int32} {v3 : Int32} {s0 : Int32} {s1 : Int32} (h : am_J m7_layBest (D + 1) 41 [.ref 30, .int v1, .int (s1 + s0), .int (v3 + 1)] [] mem Q) : am_J m7_layBest (D + 1) 70 [.ref 30, .int v1, .null, .int v3] [.int s0, .int s1] mem Q := by
  refine am_iadd (pc := 70) dX7_layBest_70 ?_
  refine am_istoreE_n (pc := 71) 2 (loc' := [.ref 30, .int v1, .int (s1 + s0), .int v3]) dX7_layBest_71 rfl (by decide) rfl rfl ?_
  refine am_iincE (pc := 72) (v := 1) (loc' := [.ref 30, .int v1, .int (s1 + s0), .int (v3 + 1)]) dX7_layBest_72 rfl rfl (by decide) rfl rfl ?_
  refine am_goto (pc := 75) 41 dX7_layBest_75 (by decide) ?_
  exact h
set_option maxRecDepth 100000 in
set_option maxHeartbeats 4000000 in
theorem sg7_layBest_80 {D : Nat} {mem : am_Mem} {Q : Option Value → am_Mem → Prop} {v1 : Int32} {v2 : Int32} {v3 : Int32} (h : ((mem 30 2) ≤ v3 → am_J m7_layBest (D + 1) 129 [.ref 30, .int v1, .int v2, .null] [] mem Q) ∧ (¬ (mem 30 2) ≤ v3 → (v2 ≤ (mem 30 20) → am_J m7_layBest (D + 1) 129 [.ref 30, .int v1, .int v2, .null] [] mem Q) ∧ (¬ v2 ≤ (mem 30 20) → vp_in v3 8 ∧ ((4 ≤ (mem 38 v3.toNatClampNeg) → am_J m7_layBest (D + 1) 122 [.ref 30, .int v1, .int v2, .int v3] [.int ((-9)), .int v3, .ref 39] mem Q) ∧ (¬ 4 ≤ (mem 38 v3.toNatClampNeg) → vp_in v3 8 ∧ (am_J m7_layBest (D + 1) 122 [.ref 30, .int v1, .int v2, .int v3] [.int (mem 38 v3.toNatClampNeg), .int v3, .ref 39] mem Q)))))) : am_J m7_layBest (D + 1) 80 [.ref 30, .int v1, .int v2, .int v3] [] mem Q := by
  refine am_iload_n (pc := 80) 3 dX7_layBest_80 rfl rfl ?_
  refine am_aload_n (pc := 81) 0 dX7_layBest_81 rfl rfl ?_
  refine am_getI (pc := 82) (k := 2) cl7 sh30 (by decide) (by decide) f7_74 rfl dX7_layBest_82 ?_
  refine am_icmp_ge (pc := 85) 129 dX7_layBest_85 (by decide) (fun c => ?_) (fun c => ?_)
  · replace h := h.1 c
    exact am_drop [3] h
  · replace h := h.2 c
    refine am_iload_n (pc := 88) 2 dX7_layBest_88 rfl rfl ?_
    refine am_aload_n (pc := 89) 0 dX7_layBest_89 rfl rfl ?_
    refine am_getI (pc := 90) (k := 20) cl7 sh30 (by decide) (by decide) f7_143 rfl dX7_layBest_90 ?_
    refine am_icmp_le (pc := 93) 129 dX7_layBest_93 (by decide) (fun c => ?_) (fun c => ?_)
    · replace h := h.1 c
      exact am_drop [3] h
    · replace h := h.2 c
      refine am_aload_n (pc := 96) 0 dX7_layBest_96 rfl rfl ?_
      refine am_getR (pc := 97) (k := 15) cl7 sh30 (by decide) (by decide) f7_47 rfl dX7_layBest_97 ?_
      refine am_iload_n (pc := 100) 3 dX7_layBest_100 rfl rfl ?_
      refine am_aload_n (pc := 101) 0 dX7_layBest_101 rfl rfl ?_
      refine am_getR (pc := 102) (k := 14) cl7 sh30 (by decide) (by decide) f7_44 rfl dX7_layBest_102 ?_
      refine am_iload_n (pc := 105) 3 dX7_layBest_105 rfl rfl ?_
      refine am_iald (pc := 106) sh38 (by decide) h.1 dX7_layBest_106 ?_
      replace h := h.2
      refine am_iconst (pc := 107) (v := 4) dX7_layBest_107 rfl ?_
      refine am_icmp_ge (pc := 108) 120 dX7_layBest_108 (by decide) (fun c => ?_) (fun c => ?_)
      · replace h := h.1 c
        refine am_bipush (pc := 120) (v := -9) dX7_layBest_120 rfl ?_
        exact h
      · replace h := h.2 c
        refine am_aload_n (pc := 111) 0 dX7_layBest_111 rfl rfl ?_
        refine am_getR (pc := 112) (k := 14) cl7 sh30 (by decide) (by decide) f7_44 rfl dX7_layBest_112 ?_
        refine am_iload_n (pc := 115) 3 dX7_layBest_115 rfl rfl ?_
        refine am_iald (pc := 116) sh38 (by decide) h.1 dX7_layBest_116 ?_
        replace h := h.2
        refine am_goto (pc := 117) 122 dX7_layBest_117 (by decide) ?_
        exact h
set_option maxRecDepth 100000 in
set_option maxHeartbeats 4000000 in
theorem sg7_layBest_122 {D : Nat} {mem : am_Mem} {Q : Option Value → am_Mem → Prop} {v1 : Int32} {v2 : Int32} {v3 : Int32} {s0 : Int32} {s1 : Int32} (h : vp_in s1 8 ∧ (am_J m7_layBest (D + 1) 80 [.ref 30, .int v1, .int v2, .int (v3 + 1)] [] (am_set mem 39 s1.toNatClampNeg s0) Q)) : am_J m7_layBest (D + 1) 122 [.ref 30, .int v1, .int v2, .int v3] [.int s0, .int s1, .ref 39] mem Q := by
  refine am_iast (pc := 122) sh39 (by decide) h.1 dX7_layBest_122 ?_
  replace h := h.2
  refine am_iincE (pc := 123) (v := 1) (loc' := [.ref 30, .int v1, .int v2, .int (v3 + 1)]) dX7_layBest_123 rfl rfl (by decide) rfl rfl ?_
  refine am_goto (pc := 126) 80 dX7_layBest_126 (by decide) ?_
  exact h
set_option maxRecDepth 100000 in
set_option maxHeartbeats 4000000 in
theorem sg7_layBest_129 {D : Nat} {mem : am_Mem} {Q : Option Value → am_Mem → Prop} {v1 : Int32} {v2 : Int32} (h : (v2 ≤ (mem 30 20) → am_J m7_layBest (D + 1) 146 [.ref 30, .int v1, .null, .null] [.int (mem 30 20), .ref 30] mem Q) ∧ (¬ v2 ≤ (mem 30 20) → am_J m7_layBest (D + 1) 146 [.ref 30, .int v1, .null, .null] [.int v2, .ref 30] mem Q)) : am_J m7_layBest (D + 1) 129 [.ref 30, .int v1, .int v2, .null] [] mem Q := by
  refine am_aload_n (pc := 129) 0 dX7_layBest_129 rfl rfl ?_
  refine am_iload_n (pc := 130) 2 dX7_layBest_130 rfl rfl ?_
  refine am_aload_n (pc := 131) 0 dX7_layBest_131 rfl rfl ?_
  refine am_getI (pc := 132) (k := 20) cl7 sh30 (by decide) (by decide) f7_143 rfl dX7_layBest_132 ?_
  refine am_icmp_le (pc := 135) 142 dX7_layBest_135 (by decide) (fun c => ?_) (fun c => ?_)
  · replace h := h.1 c
    refine am_aload_n (pc := 142) 0 dX7_layBest_142 rfl rfl ?_
    refine am_getI (pc := 143) (k := 20) cl7 sh30 (by decide) (by decide) f7_143 rfl dX7_layBest_143 ?_
    exact am_drop [2] h
  · replace h := h.2 c
    refine am_iload_n (pc := 138) 2 dX7_layBest_138 rfl rfl ?_
    refine am_goto (pc := 139) 146 dX7_layBest_139 (by decide) ?_
    exact am_drop [2] h
set_option maxRecDepth 100000 in
set_option maxHeartbeats 4000000 in
theorem sg7_layBest_146 {D : Nat} {mem : am_Mem} {Q : Option Value → am_Mem → Prop} {v1 : Int32} {s0 : Int32} (h : am_J m7_layBest (D + 1) 25 [.ref 30, .int (v1 + (-1)), .null, .null] [] (am_set mem 30 20 s0) Q) : am_J m7_layBest (D + 1) 146 [.ref 30, .int v1, .null, .null] [.int s0, .ref 30] mem Q := by
  refine am_putI (pc := 146) (k := 20) cl7 sh30 (by decide) (by decide) f7_143 rfl rfl rfl dX7_layBest_146 ?_
  refine am_iincE (pc := 149) (v := -1) (loc' := [.ref 30, .int (v1 + (-1)), .null, .null]) dX7_layBest_149 rfl rfl (by decide) rfl rfl ?_
  refine am_goto (pc := 152) 25 dX7_layBest_152 (by decide) ?_
  exact h
set_option maxRecDepth 100000 in
set_option maxHeartbeats 4000000 in
theorem sg7_layBest_180 {D : Nat} {mem : am_Mem} {Q : Option Value → am_Mem → Prop} {v1 : Int32} {s0 : Int32} {s1 : Int32} (h : vp_in s1 8 ∧ (am_Ci m7_step D [.ref 30, .int v1] (am_set mem 38 s1.toNatClampNeg s0) (fun r_1 mem_1 => am_J m7_layBest (D + 1) 25 [.ref 30, .int r_1, .null, .null] [] mem_1 Q))) : am_J m7_layBest (D + 1) 180 [.ref 30, .int v1, .null, .null] [.int s0, .int s1, .ref 38] mem Q := by
  refine am_iast (pc := 180) sh38 (by decide) h.1 dX7_layBest_180 ?_
  replace h := h.2
  refine am_aload_n (pc := 181) 0 dX7_layBest_181 rfl rfl ?_
  refine am_iload_n (pc := 182) 1 dX7_layBest_182 rfl rfl ?_
  refine am_callV (pc := 183) m7_step D 1 [.int v1] (rest := []) ok7_step (by omega) rfl rfl sh30 (by decide) rfl l7_140 in7_step se7_step (Nat.le_of_ble_eq_true rfl) dX7_layBest_183 ?_
  refine am_Ci.use h (fun r_1 mem_1 h => ?_)
  show am_J m7_layBest (D + 1) 186 [.ref 30, .int v1, .null, .null] [.int r_1] mem_1 Q
  refine am_istoreE_n (pc := 186) 1 (loc' := [.ref 30, .int r_1, .null, .null]) dX7_layBest_186 rfl (by decide) rfl rfl ?_
  refine am_goto (pc := 187) 25 dX7_layBest_187 (by decide) ?_
  exact h
set_option maxRecDepth 100000 in
set_option maxHeartbeats 4000000 in
theorem sg7_best_0 {D : Nat} {mem : am_Mem} {Q : Option Value → am_Mem → Prop}  (h : am_Cv m7_layBest D [.ref 30] mem (fun mem_1 => Q (some (.int (mem_1 30 20))) mem_1)) : am_J m7_best (D + 1) 0 [.ref 30] [] mem Q := by
  refine am_aload_n (pc := 0) 0 dX7_best_0 rfl rfl ?_
  refine am_callV (pc := 1) m7_layBest D 0 [] (rest := []) ok7_layBest (by omega) rfl rfl sh30 (by decide) rfl l7_146 in7_layBest se7_layBest (Nat.le_of_ble_eq_true rfl) dX7_best_1 ?_
  refine am_Cv.use h (fun mem_1 h => ?_)
  show am_J m7_best (D + 1) 4 [.ref 30] [] mem_1 Q
  refine am_aload_n (pc := 4) 0 dX7_best_4 rfl rfl ?_
  refine am_getI (pc := 5) (k := 20) cl7 sh30 (by decide) (by decide) f7_143 rfl dX7_best_5 ?_
  exact am_ireturn rfl dX7_best_8 h
set_option maxRecDepth 100000 in
set_option maxHeartbeats 4000000 in
theorem sg7_at_0 {D : Nat} {mem : am_Mem} {Q : Option Value → am_Mem → Prop} {v1 : Int32} (h : am_Ci m7_isSite D [.ref 30, .int v1] mem (fun r_1 mem_1 => (¬ r_1 = 0 → am_Cv m7_layBest D [.ref 30] mem_1 (fun mem_2 => vp_in v1 8 ∧ (Q (some (.int (mem_2 39 v1.toNatClampNeg))) mem_2))) ∧ (r_1 = 0 → Q (some (.int (-1))) mem_1))) : am_J m7_at (D + 1) 0 [.ref 30, .int v1] [] mem Q := by
  refine am_aload_n (pc := 0) 0 dX7_at_0 rfl rfl ?_
  refine am_iload_n (pc := 1) 1 dX7_at_1 rfl rfl ?_
  refine am_callV (pc := 2) m7_isSite D 1 [.int v1] (rest := []) ok7_isSite (by omega) rfl rfl sh30 (by decide) rfl l7_93 in7_isSite se7_isSite (Nat.le_of_ble_eq_true rfl) dX7_at_2 ?_
  refine am_Ci.use h (fun r_1 mem_1 h => ?_)
  show am_J m7_at (D + 1) 5 [.ref 30, .int v1] [.int r_1] mem_1 Q
  refine am_if_ne (pc := 5) 10 dX7_at_5 (by decide) (fun c => ?_) (fun c => ?_)
  · replace h := h.1 c
    refine am_aload_n (pc := 10) 0 dX7_at_10 rfl rfl ?_
    refine am_callV (pc := 11) m7_layBest D 0 [] (rest := []) ok7_layBest (by omega) rfl rfl sh30 (by decide) rfl l7_146 in7_layBest se7_layBest (Nat.le_of_ble_eq_true rfl) dX7_at_11 ?_
    refine am_Cv.use h (fun mem_2 h => ?_)
    show am_J m7_at (D + 1) 14 [.ref 30, .int v1] [] mem_2 Q
    refine am_aload_n (pc := 14) 0 dX7_at_14 rfl rfl ?_
    refine am_getR (pc := 15) (k := 15) cl7 sh30 (by decide) (by decide) f7_47 rfl dX7_at_15 ?_
    refine am_iload_n (pc := 18) 1 dX7_at_18 rfl rfl ?_
    refine am_iald (pc := 19) sh39 (by decide) h.1 dX7_at_19 ?_
    replace h := h.2
    exact am_ireturn rfl dX7_at_20 h
  · replace h := h.2 c
    refine am_iconst (pc := 8) (v := -1) dX7_at_8 rfl ?_
    exact am_ireturn rfl dX7_at_9 h
set_option maxRecDepth 100000 in
set_option maxHeartbeats 4000000 in
theorem sg7_named_0 {D : Nat} {mem : am_Mem} {Q : Option Value → am_Mem → Prop}  (h : am_Cv m7_layBest D [.ref 30] mem (fun mem_1 => am_J m7_named (D + 1) 8 [.ref 30, .int 0, .int 0] [] mem_1 Q)) : am_J m7_named (D + 1) 0 [.ref 30, .null, .null] [] mem Q := by
  refine am_aload_n (pc := 0) 0 dX7_named_0 rfl rfl ?_
  refine am_callV (pc := 1) m7_layBest D 0 [] (rest := []) ok7_layBest (by omega) rfl rfl sh30 (by decide) rfl l7_146 in7_layBest se7_layBest (Nat.le_of_ble_eq_true rfl) dX7_named_1 ?_
  refine am_Cv.use h (fun mem_1 h => ?_)
  show am_J m7_named (D + 1) 4 [.ref 30, .null, .null] [] mem_1 Q
  refine am_iconst (pc := 4) (v := 0) dX7_named_4 rfl ?_
  refine am_istoreE_n (pc := 5) 1 (loc' := [.ref 30, .int 0, .null]) dX7_named_5 rfl (by decide) rfl rfl ?_
  refine am_iconst (pc := 6) (v := 0) dX7_named_6 rfl ?_
  refine am_istoreE_n (pc := 7) 2 (loc' := [.ref 30, .int 0, .int 0]) dX7_named_7 rfl (by decide) rfl rfl ?_
  exact h
set_option maxRecDepth 100000 in
set_option maxHeartbeats 4000000 in
theorem sg7_named_8 {D : Nat} {mem : am_Mem} {Q : Option Value → am_Mem → Prop} {v1 : Int32} {v2 : Int32} (h : ((mem 30 2) ≤ v2 → Q (some (.int v1)) mem) ∧ (¬ (mem 30 2) ≤ v2 → vp_in v2 8 ∧ ((¬ (mem 39 v2.toNatClampNeg) = (-9) → am_J m7_named (D + 1) 33 [.ref 30, .null, .int v2] [.int 1, .int v1] mem Q) ∧ ((mem 39 v2.toNatClampNeg) = (-9) → am_J m7_named (D + 1) 33 [.ref 30, .null, .int v2] [.int 0, .int v1] mem Q)))) : am_J m7_named (D + 1) 8 [.ref 30, .int v1, .int v2] [] mem Q := by
  refine am_iload_n (pc := 8) 2 dX7_named_8 rfl rfl ?_
  refine am_aload_n (pc := 9) 0 dX7_named_9 rfl rfl ?_
  refine am_getI (pc := 10) (k := 2) cl7 sh30 (by decide) (by decide) f7_74 rfl dX7_named_10 ?_
  refine am_icmp_ge (pc := 13) 41 dX7_named_13 (by decide) (fun c => ?_) (fun c => ?_)
  · replace h := h.1 c
    refine am_iload_n (pc := 41) 1 dX7_named_41 rfl rfl ?_
    exact am_ireturn rfl dX7_named_42 h
  · replace h := h.2 c
    refine am_iload_n (pc := 16) 1 dX7_named_16 rfl rfl ?_
    refine am_aload_n (pc := 17) 0 dX7_named_17 rfl rfl ?_
    refine am_getR (pc := 18) (k := 15) cl7 sh30 (by decide) (by decide) f7_47 rfl dX7_named_18 ?_
    refine am_iload_n (pc := 21) 2 dX7_named_21 rfl rfl ?_
    refine am_iald (pc := 22) sh39 (by decide) h.1 dX7_named_22 ?_
    replace h := h.2
    refine am_bipush (pc := 23) (v := -9) dX7_named_23 rfl ?_
    refine am_icmp_ne (pc := 25) 32 dX7_named_25 (by decide) (fun c => ?_) (fun c => ?_)
    · replace h := h.1 c
      refine am_iconst (pc := 32) (v := 1) dX7_named_32 rfl ?_
      exact am_drop [1] h
    · replace h := h.2 c
      refine am_iconst (pc := 28) (v := 0) dX7_named_28 rfl ?_
      refine am_goto (pc := 29) 33 dX7_named_29 (by decide) ?_
      exact am_drop [1] h
set_option maxRecDepth 100000 in
set_option maxHeartbeats 4000000 in
theorem sg7_named_33 {D : Nat} {mem : am_Mem} {Q : Option Value → am_Mem → Prop} {v2 : Int32} {s0 : Int32} {s1 : Int32} (h : am_J m7_named (D + 1) 8 [.ref 30, .int (s1 + s0), .int (v2 + 1)] [] mem Q) : am_J m7_named (D + 1) 33 [.ref 30, .null, .int v2] [.int s0, .int s1] mem Q := by
  refine am_iadd (pc := 33) dX7_named_33 ?_
  refine am_istoreE_n (pc := 34) 1 (loc' := [.ref 30, .int (s1 + s0), .int v2]) dX7_named_34 rfl (by decide) rfl rfl ?_
  refine am_iincE (pc := 35) (v := 1) (loc' := [.ref 30, .int (s1 + s0), .int (v2 + 1)]) dX7_named_35 rfl rfl (by decide) rfl rfl ?_
  refine am_goto (pc := 38) 8 dX7_named_38 (by decide) ?_
  exact h
set_option maxRecDepth 100000 in
set_option maxHeartbeats 4000000 in
theorem sg7_full_0 {D : Nat} {mem : am_Mem} {Q : Option Value → am_Mem → Prop}  (h : am_Ci m7_layFull D [.ref 30, .int 0] mem (fun r_1 mem_1 => Q (some (.int (mem_1 30 19))) mem_1)) : am_J m7_full (D + 1) 0 [.ref 30, .null] [] mem Q := by
  refine am_aload_n (pc := 0) 0 dX7_full_0 rfl rfl ?_
  refine am_iconst (pc := 1) (v := 0) dX7_full_1 rfl ?_
  refine am_callV (pc := 2) m7_layFull D 1 [.int 0] (rest := []) ok7_layFull (by omega) rfl rfl sh30 (by decide) rfl l7_149 in7_layFull se7_layFull (Nat.le_of_ble_eq_true rfl) dX7_full_2 ?_
  refine am_Ci.use h (fun r_1 mem_1 h => ?_)
  show am_J m7_full (D + 1) 5 [.ref 30, .null] [.int r_1] mem_1 Q
  refine am_istoreE_n (pc := 5) 1 (loc' := [.ref 30, .int r_1]) dX7_full_5 rfl (by decide) rfl rfl ?_
  refine am_aload_n (pc := 6) 0 dX7_full_6 rfl rfl ?_
  refine am_getI (pc := 7) (k := 19) cl7 sh30 (by decide) (by decide) f7_133 rfl dX7_full_7 ?_
  exact am_ireturn rfl dX7_full_10 h
set_option maxRecDepth 100000 in
set_option maxHeartbeats 4000000 in
theorem sg7_with_0 {D : Nat} {mem : am_Mem} {Q : Option Value → am_Mem → Prop} {v1 : Int32} {v2 : Int32} (h : am_Ci m7_isSite D [.ref 30, .int v1] mem (fun r_1 mem_1 => (¬ r_1 = 0 → am_Ci m7_isCorner D [.int v2] mem_1 (fun r_2 mem_2 => (¬ r_2 = 0 → am_Ci m7_layFull D [.ref 30, .int 0] mem_2 (fun r_3 mem_3 => vp_in (((4 : Int32) * v1) + v2) 32 ∧ (Q (some (.int (mem_3 42 (((4 : Int32) * v1) + v2).toNatClampNeg))) mem_3))) ∧ (r_2 = 0 → Q (some (.int (-2))) mem_2))) ∧ (r_1 = 0 → Q (some (.int (-1))) mem_1))) : am_J m7_with (D + 1) 0 [.ref 30, .int v1, .int v2, .null] [] mem Q := by
  refine am_aload_n (pc := 0) 0 dX7_with_0 rfl rfl ?_
  refine am_iload_n (pc := 1) 1 dX7_with_1 rfl rfl ?_
  refine am_callV (pc := 2) m7_isSite D 1 [.int v1] (rest := []) ok7_isSite (by omega) rfl rfl sh30 (by decide) rfl l7_93 in7_isSite se7_isSite (Nat.le_of_ble_eq_true rfl) dX7_with_2 ?_
  refine am_Ci.use h (fun r_1 mem_1 h => ?_)
  show am_J m7_with (D + 1) 5 [.ref 30, .int v1, .int v2, .null] [.int r_1] mem_1 Q
  refine am_if_ne (pc := 5) 10 dX7_with_5 (by decide) (fun c => ?_) (fun c => ?_)
  · replace h := h.1 c
    refine am_iload_n (pc := 10) 2 dX7_with_10 rfl rfl ?_
    refine am_callS (pc := 11) m7_isCorner D 1 [.int v2] (rest := []) ok7_isCorner (by omega) rfl rfl l7_97 st7_isCorner (Nat.le_of_ble_eq_true rfl) dX7_with_11 ?_
    refine am_Ci.use h (fun r_2 mem_2 h => ?_)
    show am_J m7_with (D + 1) 14 [.ref 30, .int v1, .int v2, .null] [.int r_2] mem_2 Q
    refine am_if_ne (pc := 14) 20 dX7_with_14 (by decide) (fun c => ?_) (fun c => ?_)
    · replace h := h.1 c
      refine am_aload_n (pc := 20) 0 dX7_with_20 rfl rfl ?_
      refine am_iconst (pc := 21) (v := 0) dX7_with_21 rfl ?_
      refine am_callV (pc := 22) m7_layFull D 1 [.int 0] (rest := []) ok7_layFull (by omega) rfl rfl sh30 (by decide) rfl l7_149 in7_layFull se7_layFull (Nat.le_of_ble_eq_true rfl) dX7_with_22 ?_
      refine am_Ci.use h (fun r_3 mem_3 h => ?_)
      show am_J m7_with (D + 1) 25 [.ref 30, .int v1, .int v2, .null] [.int r_3] mem_3 Q
      refine am_istoreE_n (pc := 25) 3 (loc' := [.ref 30, .int v1, .int v2, .int r_3]) dX7_with_25 rfl (by decide) rfl rfl ?_
      refine am_aload_n (pc := 26) 0 dX7_with_26 rfl rfl ?_
      refine am_getR (pc := 27) (k := 21) cl7 sh30 (by decide) (by decide) f7_56 rfl dX7_with_27 ?_
      refine am_iconst (pc := 30) (v := 4) dX7_with_30 rfl ?_
      refine am_iload_n (pc := 31) 1 dX7_with_31 rfl rfl ?_
      refine am_imul (pc := 32) dX7_with_32 ?_
      refine am_iload_n (pc := 33) 2 dX7_with_33 rfl rfl ?_
      refine am_iadd (pc := 34) dX7_with_34 ?_
      refine am_iald (pc := 35) sh42 (by decide) h.1 dX7_with_35 ?_
      replace h := h.2
      exact am_ireturn rfl dX7_with_36 h
    · replace h := h.2 c
      refine am_bipush (pc := 17) (v := -2) dX7_with_17 rfl ?_
      exact am_ireturn rfl dX7_with_19 h
  · replace h := h.2 c
    refine am_iconst (pc := 8) (v := -1) dX7_with_8 rfl ?_
    exact am_ireturn rfl dX7_with_9 h
set_option maxRecDepth 100000 in
set_option maxHeartbeats 4000000 in
theorem sg7_sure_0 {D : Nat} {mem : am_Mem} {Q : Option Value → am_Mem → Prop} {v1 : Int32} (h : am_Ci m7_isSite D [.ref 30, .int v1] mem (fun r_1 mem_1 => (¬ r_1 = 0 → am_Ci m7_layFull D [.ref 30, .int 0] mem_1 (fun r_2 mem_2 => (¬ r_2 = 0 → am_J m7_sure (D + 1) 23 [.ref 30, .int v1, .int 0] [] mem_2 Q) ∧ (r_2 = 0 → Q (some (.int (-9))) mem_2))) ∧ (r_1 = 0 → Q (some (.int (-1))) mem_1))) : am_J m7_sure (D + 1) 0 [.ref 30, .int v1, .null] [] mem Q := by
  refine am_aload_n (pc := 0) 0 dX7_sure_0 rfl rfl ?_
  refine am_iload_n (pc := 1) 1 dX7_sure_1 rfl rfl ?_
  refine am_callV (pc := 2) m7_isSite D 1 [.int v1] (rest := []) ok7_isSite (by omega) rfl rfl sh30 (by decide) rfl l7_93 in7_isSite se7_isSite (Nat.le_of_ble_eq_true rfl) dX7_sure_2 ?_
  refine am_Ci.use h (fun r_1 mem_1 h => ?_)
  show am_J m7_sure (D + 1) 5 [.ref 30, .int v1, .null] [.int r_1] mem_1 Q
  refine am_if_ne (pc := 5) 10 dX7_sure_5 (by decide) (fun c => ?_) (fun c => ?_)
  · replace h := h.1 c
    refine am_aload_n (pc := 10) 0 dX7_sure_10 rfl rfl ?_
    refine am_iconst (pc := 11) (v := 0) dX7_sure_11 rfl ?_
    refine am_callV (pc := 12) m7_layFull D 1 [.int 0] (rest := []) ok7_layFull (by omega) rfl rfl sh30 (by decide) rfl l7_149 in7_layFull se7_layFull (Nat.le_of_ble_eq_true rfl) dX7_sure_12 ?_
    refine am_Ci.use h (fun r_2 mem_2 h => ?_)
    show am_J m7_sure (D + 1) 15 [.ref 30, .int v1, .null] [.int r_2] mem_2 Q
    refine am_if_ne (pc := 15) 21 dX7_sure_15 (by decide) (fun c => ?_) (fun c => ?_)
    · replace h := h.1 c
      refine am_iconst (pc := 21) (v := 0) dX7_sure_21 rfl ?_
      refine am_istoreE_n (pc := 22) 2 (loc' := [.ref 30, .int v1, .int 0]) dX7_sure_22 rfl (by decide) rfl rfl ?_
      exact h
    · replace h := h.2 c
      refine am_bipush (pc := 18) (v := -9) dX7_sure_18 rfl ?_
      exact am_ireturn rfl dX7_sure_20 h
  · replace h := h.2 c
    refine am_iconst (pc := 8) (v := -1) dX7_sure_8 rfl ?_
    exact am_ireturn rfl dX7_sure_9 h
set_option maxRecDepth 100000 in
set_option maxHeartbeats 4000000 in
theorem sg7_sure_23 {D : Nat} {mem : am_Mem} {Q : Option Value → am_Mem → Prop} {v1 : Int32} {v2 : Int32} (h : (4 ≤ v2 → Q (some (.int (-9))) mem) ∧ (¬ 4 ≤ v2 → vp_in (((4 : Int32) * v1) + v2) 32 ∧ ((¬ (mem 42 (((4 : Int32) * v1) + v2).toNatClampNeg) = (mem 30 19) → am_J m7_sure (D + 1) 23 [.ref 30, .int v1, .int (v2 + 1)] [] mem Q) ∧ ((mem 42 (((4 : Int32) * v1) + v2).toNatClampNeg) = (mem 30 19) → Q (some (.int v2)) mem)))) : am_J m7_sure (D + 1) 23 [.ref 30, .int v1, .int v2] [] mem Q := by
  refine am_iload_n (pc := 23) 2 dX7_sure_23 rfl rfl ?_
  refine am_iconst (pc := 24) (v := 4) dX7_sure_24 rfl ?_
  refine am_icmp_ge (pc := 25) 53 dX7_sure_25 (by decide) (fun c => ?_) (fun c => ?_)
  · replace h := h.1 c
    refine am_bipush (pc := 53) (v := -9) dX7_sure_53 rfl ?_
    exact am_ireturn rfl dX7_sure_55 h
  · replace h := h.2 c
    refine am_aload_n (pc := 28) 0 dX7_sure_28 rfl rfl ?_
    refine am_getR (pc := 29) (k := 21) cl7 sh30 (by decide) (by decide) f7_56 rfl dX7_sure_29 ?_
    refine am_iconst (pc := 32) (v := 4) dX7_sure_32 rfl ?_
    refine am_iload_n (pc := 33) 1 dX7_sure_33 rfl rfl ?_
    refine am_imul (pc := 34) dX7_sure_34 ?_
    refine am_iload_n (pc := 35) 2 dX7_sure_35 rfl rfl ?_
    refine am_iadd (pc := 36) dX7_sure_36 ?_
    refine am_iald (pc := 37) sh42 (by decide) h.1 dX7_sure_37 ?_
    replace h := h.2
    refine am_aload_n (pc := 38) 0 dX7_sure_38 rfl rfl ?_
    refine am_getI (pc := 39) (k := 19) cl7 sh30 (by decide) (by decide) f7_133 rfl dX7_sure_39 ?_
    refine am_icmp_ne (pc := 42) 47 dX7_sure_42 (by decide) (fun c => ?_) (fun c => ?_)
    · replace h := h.1 c
      refine am_iincE (pc := 47) (v := 1) (loc' := [.ref 30, .int v1, .int (v2 + 1)]) dX7_sure_47 rfl rfl (by decide) rfl rfl ?_
      refine am_goto (pc := 50) 23 dX7_sure_50 (by decide) ?_
      exact h
    · replace h := h.2 c
      refine am_iload_n (pc := 45) 2 dX7_sure_45 rfl rfl ?_
      exact am_ireturn rfl dX7_sure_46 h
set_option maxRecDepth 100000 in
set_option maxHeartbeats 4000000 in
theorem sg7_greatest_0 {D : Nat} {mem : am_Mem} {Q : Option Value → am_Mem → Prop}  (h : am_J m7_greatest (D + 1) 11 [.ref 30, .int (mem 30 10), .int ((-9)), .int 40] [] mem Q) : am_J m7_greatest (D + 1) 0 [.ref 30, .null, .null, .null] [] mem Q := by
  refine am_aload_n (pc := 0) 0 dX7_greatest_0 rfl rfl ?_
  refine am_getI (pc := 1) (k := 10) cl7 sh30 (by decide) (by decide) f7_38 rfl dX7_greatest_1 ?_
  refine am_istoreE_n (pc := 4) 1 (loc' := [.ref 30, .int (mem 30 10), .null, .null]) dX7_greatest_4 rfl (by decide) rfl rfl ?_
  refine am_bipush (pc := 5) (v := -9) dX7_greatest_5 rfl ?_
  refine am_istoreE_n (pc := 7) 2 (loc' := [.ref 30, .int (mem 30 10), .int ((-9)), .null]) dX7_greatest_7 rfl (by decide) rfl rfl ?_
  refine am_bipush (pc := 8) (v := 40) dX7_greatest_8 rfl ?_
  refine am_istoreE_n (pc := 10) 3 (loc' := [.ref 30, .int (mem 30 10), .int ((-9)), .int 40]) dX7_greatest_10 rfl (by decide) rfl rfl ?_
  exact h
set_option maxRecDepth 100000 in
set_option maxHeartbeats 4000000 in
theorem sg7_greatest_11 {D : Nat} {mem : am_Mem} {Q : Option Value → am_Mem → Prop} {v1 : Int32} {v2 : Int32} {v3 : Int32} (h : (v3 ≤ 0 → Q (some (.int v2)) (am_set mem 30 10 v1)) ∧ (¬ v3 ≤ 0 → (¬ v2 = (-9) → Q (some (.int v2)) (am_set mem 30 10 v1)) ∧ (v2 = (-9) → am_Ci m7_layFull D [.ref 30, .int 1] (am_set mem 30 10 v3) (fun r_1 mem_1 => (r_1 = 0 → am_J m7_greatest (D + 1) 40 [.ref 30, .int v1, .null, .int v3] [.int ((-9))] mem_1 Q) ∧ (¬ r_1 = 0 → am_J m7_greatest (D + 1) 40 [.ref 30, .int v1, .null, .int v3] [.int v3] mem_1 Q))))) : am_J m7_greatest (D + 1) 11 [.ref 30, .int v1, .int v2, .int v3] [] mem Q := by
  refine am_iload_n (pc := 11) 3 dX7_greatest_11 rfl rfl ?_
  refine am_if_le (pc := 12) 47 dX7_greatest_12 (by decide) (fun c => ?_) (fun c => ?_)
  · replace h := h.1 c
    refine am_aload_n (pc := 47) 0 dX7_greatest_47 rfl rfl ?_
    refine am_iload_n (pc := 48) 1 dX7_greatest_48 rfl rfl ?_
    refine am_putI (pc := 49) (k := 10) cl7 sh30 (by decide) (by decide) f7_38 rfl rfl rfl dX7_greatest_49 ?_
    refine am_iload_n (pc := 52) 2 dX7_greatest_52 rfl rfl ?_
    exact am_ireturn rfl dX7_greatest_53 h
  · replace h := h.2 c
    refine am_iload_n (pc := 15) 2 dX7_greatest_15 rfl rfl ?_
    refine am_bipush (pc := 16) (v := -9) dX7_greatest_16 rfl ?_
    refine am_icmp_ne (pc := 18) 47 dX7_greatest_18 (by decide) (fun c => ?_) (fun c => ?_)
    · replace h := h.1 c
      refine am_aload_n (pc := 47) 0 dX7_greatest_47 rfl rfl ?_
      refine am_iload_n (pc := 48) 1 dX7_greatest_48 rfl rfl ?_
      refine am_putI (pc := 49) (k := 10) cl7 sh30 (by decide) (by decide) f7_38 rfl rfl rfl dX7_greatest_49 ?_
      refine am_iload_n (pc := 52) 2 dX7_greatest_52 rfl rfl ?_
      exact am_ireturn rfl dX7_greatest_53 h
    · replace h := h.2 c
      refine am_aload_n (pc := 21) 0 dX7_greatest_21 rfl rfl ?_
      refine am_iload_n (pc := 22) 3 dX7_greatest_22 rfl rfl ?_
      refine am_putI (pc := 23) (k := 10) cl7 sh30 (by decide) (by decide) f7_38 rfl rfl rfl dX7_greatest_23 ?_
      refine am_aload_n (pc := 26) 0 dX7_greatest_26 rfl rfl ?_
      refine am_iconst (pc := 27) (v := 1) dX7_greatest_27 rfl ?_
      refine am_callV (pc := 28) m7_layFull D 1 [.int 1] (rest := []) ok7_layFull (by omega) rfl rfl sh30 (by decide) rfl l7_149 in7_layFull se7_layFull (Nat.le_of_ble_eq_true rfl) dX7_greatest_28 ?_
      refine am_Ci.use h (fun r_1 mem_1 h => ?_)
      show am_J m7_greatest (D + 1) 31 [.ref 30, .int v1, .int v2, .int v3] [.int r_1] mem_1 Q
      refine am_if_eq (pc := 31) 38 dX7_greatest_31 (by decide) (fun c => ?_) (fun c => ?_)
      · replace h := h.1 c
        refine am_bipush (pc := 38) (v := -9) dX7_greatest_38 rfl ?_
        exact am_drop [2] h
      · replace h := h.2 c
        refine am_iload_n (pc := 34) 3 dX7_greatest_34 rfl rfl ?_
        refine am_goto (pc := 35) 40 dX7_greatest_35 (by decide) ?_
        exact am_drop [2] h
set_option maxRecDepth 100000 in
set_option maxHeartbeats 4000000 in
theorem sg7_greatest_40 {D : Nat} {mem : am_Mem} {Q : Option Value → am_Mem → Prop} {v1 : Int32} {v3 : Int32} {s0 : Int32} (h : am_J m7_greatest (D + 1) 11 [.ref 30, .int v1, .int s0, .int (v3 + (-1))] [] mem Q) : am_J m7_greatest (D + 1) 40 [.ref 30, .int v1, .null, .int v3] [.int s0] mem Q := by
  refine am_istoreE_n (pc := 40) 2 (loc' := [.ref 30, .int v1, .int s0, .int v3]) dX7_greatest_40 rfl (by decide) rfl rfl ?_
  refine am_iincE (pc := 41) (v := -1) (loc' := [.ref 30, .int v1, .int s0, .int (v3 + (-1))]) dX7_greatest_41 rfl rfl (by decide) rfl rfl ?_
  refine am_goto (pc := 44) 11 dX7_greatest_44 (by decide) ?_
  exact h
set_option maxRecDepth 100000 in
set_option maxHeartbeats 4000000 in
theorem sg7_least_0 {D : Nat} {mem : am_Mem} {Q : Option Value → am_Mem → Prop}  (h : am_J m7_least (D + 1) 6 [.ref 30, .int 10000, .int 0, .null, .null] [] mem Q) : am_J m7_least (D + 1) 0 [.ref 30, .null, .null, .null, .null] [] mem Q := by
  refine am_sipush (pc := 0) (v := 10000) dX7_least_0 rfl ?_
  refine am_istoreE_n (pc := 3) 1 (loc' := [.ref 30, .int 10000, .null, .null, .null]) dX7_least_3 rfl (by decide) rfl rfl ?_
  refine am_iconst (pc := 4) (v := 0) dX7_least_4 rfl ?_
  refine am_istoreE_n (pc := 5) 2 (loc' := [.ref 30, .int 10000, .int 0, .null, .null]) dX7_least_5 rfl (by decide) rfl rfl ?_
  exact h
set_option maxRecDepth 100000 in
set_option maxHeartbeats 4000000 in
theorem sg7_least_6 {D : Nat} {mem : am_Mem} {Q : Option Value → am_Mem → Prop} {v1 : Int32} {v2 : Int32} (h : (((1 : Int32) <<< ((mem 30 2) &&& 31)) ≤ v2 → Q (some (.int v1)) (am_set mem 30 13 0)) ∧ (¬ ((1 : Int32) <<< ((mem 30 2) &&& 31)) ≤ v2 → am_J m7_least (D + 1) 21 [.ref 30, .int v1, .int v2, .int 0, .int 0] [] mem Q)) : am_J m7_least (D + 1) 6 [.ref 30, .int v1, .int v2, .null, .null] [] mem Q := by
  refine am_iload_n (pc := 6) 2 dX7_least_6 rfl rfl ?_
  refine am_iconst (pc := 7) (v := 1) dX7_least_7 rfl ?_
  refine am_aload_n (pc := 8) 0 dX7_least_8 rfl rfl ?_
  refine am_getI (pc := 9) (k := 2) cl7 sh30 (by decide) (by decide) f7_74 rfl dX7_least_9 ?_
  refine am_ishl (pc := 12) dX7_least_12 ?_
  refine am_icmp_ge (pc := 13) 90 dX7_least_13 (by decide) (fun c => ?_) (fun c => ?_)
  · replace h := h.1 c
    refine am_aload_n (pc := 90) 0 dX7_least_90 rfl rfl ?_
    refine am_iconst (pc := 91) (v := 0) dX7_least_91 rfl ?_
    refine am_putI (pc := 92) (k := 13) cl7 sh30 (by decide) (by decide) f7_116 rfl rfl rfl dX7_least_92 ?_
    refine am_iload_n (pc := 95) 1 dX7_least_95 rfl rfl ?_
    exact am_ireturn rfl dX7_least_96 h
  · replace h := h.2 c
    refine am_iconst (pc := 16) (v := 0) dX7_least_16 rfl ?_
    refine am_istoreE_n (pc := 17) 3 (loc' := [.ref 30, .int v1, .int v2, .int 0, .null]) dX7_least_17 rfl (by decide) rfl rfl ?_
    refine am_iconst (pc := 18) (v := 0) dX7_least_18 rfl ?_
    refine am_istoreE (pc := 19) (loc' := [.ref 30, .int v1, .int v2, .int 0, .int 0]) dX7_least_19 (by decide) rfl rfl ?_
    exact h
set_option maxRecDepth 100000 in
set_option maxHeartbeats 4000000 in
theorem sg7_least_21 {D : Nat} {mem : am_Mem} {Q : Option Value → am_Mem → Prop} {v1 : Int32} {v2 : Int32} {v3 : Int32} {v4 : Int32} (h : ((mem 30 2) ≤ v4 → (v1 ≤ v3 → am_J m7_least (D + 1) 82 [.ref 30, .int v1, .int v2, .null, .null] [] (am_set mem 30 13 v2) Q) ∧ (¬ v1 ≤ v3 → am_Ci m7_layFull D [.ref 30, .int 1] (am_set mem 30 13 v2) (fun r_1 mem_1 => (r_1 = 0 → am_J m7_least (D + 1) 82 [.ref 30, .int v1, .int v2, .null, .null] [] mem_1 Q) ∧ (¬ r_1 = 0 → am_J m7_least (D + 1) 83 [.ref 30, .null, .int v2, .null, .null] [.int v3] mem_1 Q)))) ∧ (¬ (mem 30 2) ≤ v4 → (¬ ((v2 >>> (v4 &&& 31)) &&& (1 : Int32)) = 1 → am_J m7_least (D + 1) 52 [.ref 30, .int v1, .int v2, .null, .int v4] [.int 0, .int v3] mem Q) ∧ (((v2 >>> (v4 &&& 31)) &&& (1 : Int32)) = 1 → vp_in v4 8 ∧ (am_J m7_least (D + 1) 52 [.ref 30, .int v1, .int v2, .null, .int v4] [.int (mem 35 v4.toNatClampNeg), .int v3] mem Q)))) : am_J m7_least (D + 1) 21 [.ref 30, .int v1, .int v2, .int v3, .int v4] [] mem Q := by
  refine am_iload (pc := 21) dX7_least_21 rfl ?_
  refine am_aload_n (pc := 23) 0 dX7_least_23 rfl rfl ?_
  refine am_getI (pc := 24) (k := 2) cl7 sh30 (by decide) (by decide) f7_74 rfl dX7_least_24 ?_
  refine am_icmp_ge (pc := 27) 60 dX7_least_27 (by decide) (fun c => ?_) (fun c => ?_)
  · replace h := h.1 c
    refine am_aload_n (pc := 60) 0 dX7_least_60 rfl rfl ?_
    refine am_iload_n (pc := 61) 2 dX7_least_61 rfl rfl ?_
    refine am_putI (pc := 62) (k := 13) cl7 sh30 (by decide) (by decide) f7_116 rfl rfl rfl dX7_least_62 ?_
    refine am_iload_n (pc := 65) 3 dX7_least_65 rfl rfl ?_
    refine am_iload_n (pc := 66) 1 dX7_least_66 rfl rfl ?_
    refine am_icmp_ge (pc := 67) 82 dX7_least_67 (by decide) (fun c => ?_) (fun c => ?_)
    · replace h := h.1 c
      exact am_drop [3, 4] h
    · replace h := h.2 c
      refine am_aload_n (pc := 70) 0 dX7_least_70 rfl rfl ?_
      refine am_iconst (pc := 71) (v := 1) dX7_least_71 rfl ?_
      refine am_callV (pc := 72) m7_layFull D 1 [.int 1] (rest := []) ok7_layFull (by omega) rfl rfl sh30 (by decide) rfl l7_149 in7_layFull se7_layFull (Nat.le_of_ble_eq_true rfl) dX7_least_72 ?_
      refine am_Ci.use h (fun r_1 mem_1 h => ?_)
      show am_J m7_least (D + 1) 75 [.ref 30, .int v1, .int v2, .int v3, .int v4] [.int r_1] mem_1 Q
      refine am_if_eq (pc := 75) 82 dX7_least_75 (by decide) (fun c => ?_) (fun c => ?_)
      · replace h := h.1 c
        exact am_drop [3, 4] h
      · replace h := h.2 c
        refine am_iload_n (pc := 78) 3 dX7_least_78 rfl rfl ?_
        refine am_goto (pc := 79) 83 dX7_least_79 (by decide) ?_
        exact am_drop [1, 3, 4] h
  · replace h := h.2 c
    refine am_iload_n (pc := 30) 3 dX7_least_30 rfl rfl ?_
    refine am_iload_n (pc := 31) 2 dX7_least_31 rfl rfl ?_
    refine am_iload (pc := 32) dX7_least_32 rfl ?_
    refine am_ishr (pc := 34) dX7_least_34 ?_
    refine am_iconst (pc := 35) (v := 1) dX7_least_35 rfl ?_
    refine am_iand (pc := 36) dX7_least_36 ?_
    refine am_iconst (pc := 37) (v := 1) dX7_least_37 rfl ?_
    refine am_icmp_ne (pc := 38) 51 dX7_least_38 (by decide) (fun c => ?_) (fun c => ?_)
    · replace h := h.1 c
      refine am_iconst (pc := 51) (v := 0) dX7_least_51 rfl ?_
      exact am_drop [3] h
    · replace h := h.2 c
      refine am_aload_n (pc := 41) 0 dX7_least_41 rfl rfl ?_
      refine am_getR (pc := 42) (k := 7) cl7 sh30 (by decide) (by decide) f7_29 rfl dX7_least_42 ?_
      refine am_iload (pc := 45) dX7_least_45 rfl ?_
      refine am_iald (pc := 47) sh35 (by decide) h.1 dX7_least_47 ?_
      replace h := h.2
      refine am_goto (pc := 48) 52 dX7_least_48 (by decide) ?_
      exact am_drop [3] h
set_option maxRecDepth 100000 in
set_option maxHeartbeats 4000000 in
theorem sg7_least_52 {D : Nat} {mem : am_Mem} {Q : Option Value → am_Mem → Prop} {v1 : Int32} {v2 : Int32} {v4 : Int32} {s0 : Int32} {s1 : Int32} (h : am_J m7_least (D + 1) 21 [.ref 30, .int v1, .int v2, .int (s1 + s0), .int (v4 + 1)] [] mem Q) : am_J m7_least (D + 1) 52 [.ref 30, .int v1, .int v2, .null, .int v4] [.int s0, .int s1] mem Q := by
  refine am_iadd (pc := 52) dX7_least_52 ?_
  refine am_istoreE_n (pc := 53) 3 (loc' := [.ref 30, .int v1, .int v2, .int (s1 + s0), .int v4]) dX7_least_53 rfl (by decide) rfl rfl ?_
  refine am_iincE (pc := 54) (v := 1) (loc' := [.ref 30, .int v1, .int v2, .int (s1 + s0), .int (v4 + 1)]) dX7_least_54 rfl rfl (by decide) rfl rfl ?_
  refine am_goto (pc := 57) 21 dX7_least_57 (by decide) ?_
  exact h
set_option maxRecDepth 100000 in
set_option maxHeartbeats 4000000 in
theorem sg7_least_82 {D : Nat} {mem : am_Mem} {Q : Option Value → am_Mem → Prop} {v1 : Int32} {v2 : Int32} (h : am_J m7_least (D + 1) 83 [.ref 30, .null, .int v2, .null, .null] [.int v1] mem Q) : am_J m7_least (D + 1) 82 [.ref 30, .int v1, .int v2, .null, .null] [] mem Q := by
  refine am_iload_n (pc := 82) 1 dX7_least_82 rfl rfl ?_
  exact am_drop [1] h
set_option maxRecDepth 100000 in
set_option maxHeartbeats 4000000 in
theorem sg7_least_83 {D : Nat} {mem : am_Mem} {Q : Option Value → am_Mem → Prop} {v2 : Int32} {s0 : Int32} (h : am_J m7_least (D + 1) 6 [.ref 30, .int s0, .int (v2 + 1), .null, .null] [] mem Q) : am_J m7_least (D + 1) 83 [.ref 30, .null, .int v2, .null, .null] [.int s0] mem Q := by
  refine am_istoreE_n (pc := 83) 1 (loc' := [.ref 30, .int s0, .int v2, .null, .null]) dX7_least_83 rfl (by decide) rfl rfl ?_
  refine am_iincE (pc := 84) (v := 1) (loc' := [.ref 30, .int s0, .int (v2 + 1), .null, .null]) dX7_least_84 rfl rfl (by decide) rfl rfl ?_
  refine am_goto (pc := 87) 6 dX7_least_87 (by decide) ?_
  exact h
set_option maxRecDepth 100000 in
set_option maxHeartbeats 4000000 in
theorem sg7_put_0 {D : Nat} {mem : am_Mem} {Q : Option Value → am_Mem → Prop} {v1 : Int32} {v2 : Int32} (h : am_Ci m7_isSite D [.ref 30, .int v1] mem (fun r_1 mem_1 => (¬ r_1 = 0 → (v2 = (-9) → am_J m7_put (D + 1) 26 [.ref 30, .int v1, .int v2, .null] [] mem_1 Q) ∧ (¬ v2 = (-9) → am_Ci m7_isCorner D [.int v2] mem_1 (fun r_2 mem_2 => (¬ r_2 = 0 → am_J m7_put (D + 1) 26 [.ref 30, .int v1, .int v2, .null] [] mem_2 Q) ∧ (r_2 = 0 → Q (some (.int (-2))) mem_2)))) ∧ (r_1 = 0 → Q (some (.int (-1))) mem_1))) : am_J m7_put (D + 1) 0 [.ref 30, .int v1, .int v2, .null] [] mem Q := by
  refine am_aload_n (pc := 0) 0 dX7_put_0 rfl rfl ?_
  refine am_iload_n (pc := 1) 1 dX7_put_1 rfl rfl ?_
  refine am_callV (pc := 2) m7_isSite D 1 [.int v1] (rest := []) ok7_isSite (by omega) rfl rfl sh30 (by decide) rfl l7_93 in7_isSite se7_isSite (Nat.le_of_ble_eq_true rfl) dX7_put_2 ?_
  refine am_Ci.use h (fun r_1 mem_1 h => ?_)
  show am_J m7_put (D + 1) 5 [.ref 30, .int v1, .int v2, .null] [.int r_1] mem_1 Q
  refine am_if_ne (pc := 5) 10 dX7_put_5 (by decide) (fun c => ?_) (fun c => ?_)
  · replace h := h.1 c
    refine am_iload_n (pc := 10) 2 dX7_put_10 rfl rfl ?_
    refine am_bipush (pc := 11) (v := -9) dX7_put_11 rfl ?_
    refine am_icmp_eq (pc := 13) 26 dX7_put_13 (by decide) (fun c => ?_) (fun c => ?_)
    · replace h := h.1 c
      exact h
    · replace h := h.2 c
      refine am_iload_n (pc := 16) 2 dX7_put_16 rfl rfl ?_
      refine am_callS (pc := 17) m7_isCorner D 1 [.int v2] (rest := []) ok7_isCorner (by omega) rfl rfl l7_97 st7_isCorner (Nat.le_of_ble_eq_true rfl) dX7_put_17 ?_
      refine am_Ci.use h (fun r_2 mem_2 h => ?_)
      show am_J m7_put (D + 1) 20 [.ref 30, .int v1, .int v2, .null] [.int r_2] mem_2 Q
      refine am_if_ne (pc := 20) 26 dX7_put_20 (by decide) (fun c => ?_) (fun c => ?_)
      · replace h := h.1 c
        exact h
      · replace h := h.2 c
        refine am_bipush (pc := 23) (v := -2) dX7_put_23 rfl ?_
        exact am_ireturn rfl dX7_put_25 h
  · replace h := h.2 c
    refine am_iconst (pc := 8) (v := -1) dX7_put_8 rfl ?_
    exact am_ireturn rfl dX7_put_9 h
set_option maxRecDepth 100000 in
set_option maxHeartbeats 4000000 in
theorem sg7_put_26 {D : Nat} {mem : am_Mem} {Q : Option Value → am_Mem → Prop} {v1 : Int32} {v2 : Int32} (h : vp_in v1 8 ∧ (vp_in v1 8 ∧ (Q (some (.int (mem 37 v1.toNatClampNeg))) (am_set mem 37 v1.toNatClampNeg v2)))) : am_J m7_put (D + 1) 26 [.ref 30, .int v1, .int v2, .null] [] mem Q := by
  refine am_aload_n (pc := 26) 0 dX7_put_26 rfl rfl ?_
  refine am_getR (pc := 27) (k := 9) cl7 sh30 (by decide) (by decide) f7_35 rfl dX7_put_27 ?_
  refine am_iload_n (pc := 30) 1 dX7_put_30 rfl rfl ?_
  refine am_iald (pc := 31) sh37 (by decide) h.1 dX7_put_31 ?_
  replace h := h.2
  refine am_istoreE_n (pc := 32) 3 (loc' := [.ref 30, .int v1, .int v2, .int (mem 37 v1.toNatClampNeg)]) dX7_put_32 rfl (by decide) rfl rfl ?_
  refine am_aload_n (pc := 33) 0 dX7_put_33 rfl rfl ?_
  refine am_getR (pc := 34) (k := 9) cl7 sh30 (by decide) (by decide) f7_35 rfl dX7_put_34 ?_
  refine am_iload_n (pc := 37) 1 dX7_put_37 rfl rfl ?_
  refine am_iload_n (pc := 38) 2 dX7_put_38 rfl rfl ?_
  refine am_iast (pc := 39) sh37 (by decide) h.1 dX7_put_39 ?_
  replace h := h.2
  refine am_iload_n (pc := 40) 3 dX7_put_40 rfl rfl ?_
  exact am_ireturn rfl dX7_put_41 h
set_option maxRecDepth 100000 in
set_option maxHeartbeats 4000000 in
theorem sg7_hand_0 {D : Nat} {mem : am_Mem} {Q : Option Value → am_Mem → Prop} {v1 : Int32} (h : am_Ci m7_isSite D [.ref 30, .int v1] mem (fun r_1 mem_1 => (r_1 = 0 → Q (some (.int (-1))) mem_1) ∧ (¬ r_1 = 0 → vp_in v1 8 ∧ (Q (some (.int (mem_1 37 v1.toNatClampNeg))) mem_1)))) : am_J m7_hand (D + 1) 0 [.ref 30, .int v1] [] mem Q := by
  refine am_aload_n (pc := 0) 0 dX7_hand_0 rfl rfl ?_
  refine am_iload_n (pc := 1) 1 dX7_hand_1 rfl rfl ?_
  refine am_callV (pc := 2) m7_isSite D 1 [.int v1] (rest := []) ok7_isSite (by omega) rfl rfl sh30 (by decide) rfl l7_93 in7_isSite se7_isSite (Nat.le_of_ble_eq_true rfl) dX7_hand_2 ?_
  refine am_Ci.use h (fun r_1 mem_1 h => ?_)
  show am_J m7_hand (D + 1) 5 [.ref 30, .int v1] [.int r_1] mem_1 Q
  refine am_if_eq (pc := 5) 17 dX7_hand_5 (by decide) (fun c => ?_) (fun c => ?_)
  · replace h := h.1 c
    refine am_iconst (pc := 17) (v := -1) dX7_hand_17 rfl ?_
    exact am_ireturn rfl dX7_hand_18 h
  · replace h := h.2 c
    refine am_aload_n (pc := 8) 0 dX7_hand_8 rfl rfl ?_
    refine am_getR (pc := 9) (k := 9) cl7 sh30 (by decide) (by decide) f7_35 rfl dX7_hand_9 ?_
    refine am_iload_n (pc := 12) 1 dX7_hand_12 rfl rfl ?_
    refine am_iald (pc := 13) sh37 (by decide) h.1 dX7_hand_13 ?_
    replace h := h.2
    refine am_goto (pc := 14) 18 dX7_hand_14 (by decide) ?_
    exact am_ireturn rfl dX7_hand_18 h
set_option maxRecDepth 100000 in
set_option maxHeartbeats 4000000 in
theorem sg7_take_0 {D : Nat} {mem : am_Mem} {Q : Option Value → am_Mem → Prop}  (h : am_Cv m7_layBest D [.ref 30] mem (fun mem_1 => am_J m7_take (D + 1) 8 [.ref 30, .int 0, .int 0] [] mem_1 Q)) : am_J m7_take (D + 1) 0 [.ref 30, .null, .null] [] mem Q := by
  refine am_aload_n (pc := 0) 0 dX7_take_0 rfl rfl ?_
  refine am_callV (pc := 1) m7_layBest D 0 [] (rest := []) ok7_layBest (by omega) rfl rfl sh30 (by decide) rfl l7_146 in7_layBest se7_layBest (Nat.le_of_ble_eq_true rfl) dX7_take_1 ?_
  refine am_Cv.use h (fun mem_1 h => ?_)
  show am_J m7_take (D + 1) 4 [.ref 30, .null, .null] [] mem_1 Q
  refine am_iconst (pc := 4) (v := 0) dX7_take_4 rfl ?_
  refine am_istoreE_n (pc := 5) 1 (loc' := [.ref 30, .int 0, .null]) dX7_take_5 rfl (by decide) rfl rfl ?_
  refine am_iconst (pc := 6) (v := 0) dX7_take_6 rfl ?_
  refine am_istoreE_n (pc := 7) 2 (loc' := [.ref 30, .int 0, .int 0]) dX7_take_7 rfl (by decide) rfl rfl ?_
  exact h
set_option maxRecDepth 100000 in
set_option maxHeartbeats 4000000 in
theorem sg7_take_8 {D : Nat} {mem : am_Mem} {Q : Option Value → am_Mem → Prop} {v1 : Int32} {v2 : Int32} (h : ((mem 30 2) ≤ v2 → Q (some (.int v1)) mem) ∧ (¬ (mem 30 2) ≤ v2 → vp_in v2 8 ∧ (vp_in v2 8 ∧ (((mem 37 v2.toNatClampNeg) = (mem 39 v2.toNatClampNeg) → am_J m7_take (D + 1) 37 [.ref 30, .null, .int v2] [.int 0, .int v1] mem Q) ∧ (¬ (mem 37 v2.toNatClampNeg) = (mem 39 v2.toNatClampNeg) → am_J m7_take (D + 1) 37 [.ref 30, .null, .int v2] [.int 1, .int v1] mem Q))))) : am_J m7_take (D + 1) 8 [.ref 30, .int v1, .int v2] [] mem Q := by
  refine am_iload_n (pc := 8) 2 dX7_take_8 rfl rfl ?_
  refine am_aload_n (pc := 9) 0 dX7_take_9 rfl rfl ?_
  refine am_getI (pc := 10) (k := 2) cl7 sh30 (by decide) (by decide) f7_74 rfl dX7_take_10 ?_
  refine am_icmp_ge (pc := 13) 57 dX7_take_13 (by decide) (fun c => ?_) (fun c => ?_)
  · replace h := h.1 c
    refine am_iload_n (pc := 57) 1 dX7_take_57 rfl rfl ?_
    exact am_ireturn rfl dX7_take_58 h
  · replace h := h.2 c
    refine am_iload_n (pc := 16) 1 dX7_take_16 rfl rfl ?_
    refine am_aload_n (pc := 17) 0 dX7_take_17 rfl rfl ?_
    refine am_getR (pc := 18) (k := 9) cl7 sh30 (by decide) (by decide) f7_35 rfl dX7_take_18 ?_
    refine am_iload_n (pc := 21) 2 dX7_take_21 rfl rfl ?_
    refine am_iald (pc := 22) sh37 (by decide) h.1 dX7_take_22 ?_
    replace h := h.2
    refine am_aload_n (pc := 23) 0 dX7_take_23 rfl rfl ?_
    refine am_getR (pc := 24) (k := 15) cl7 sh30 (by decide) (by decide) f7_47 rfl dX7_take_24 ?_
    refine am_iload_n (pc := 27) 2 dX7_take_27 rfl rfl ?_
    refine am_iald (pc := 28) sh39 (by decide) h.1 dX7_take_28 ?_
    replace h := h.2
    refine am_icmp_eq (pc := 29) 36 dX7_take_29 (by decide) (fun c => ?_) (fun c => ?_)
    · replace h := h.1 c
      refine am_iconst (pc := 36) (v := 0) dX7_take_36 rfl ?_
      exact am_drop [1] h
    · replace h := h.2 c
      refine am_iconst (pc := 32) (v := 1) dX7_take_32 rfl ?_
      refine am_goto (pc := 33) 37 dX7_take_33 (by decide) ?_
      exact am_drop [1] h
set_option maxRecDepth 100000 in
set_option maxHeartbeats 4000000 in
theorem sg7_take_37 {D : Nat} {mem : am_Mem} {Q : Option Value → am_Mem → Prop} {v2 : Int32} {s0 : Int32} {s1 : Int32} (h : vp_in v2 8 ∧ (vp_in v2 8 ∧ (am_J m7_take (D + 1) 8 [.ref 30, .int (s1 + s0), .int (v2 + 1)] [] (am_set mem 37 v2.toNatClampNeg (mem 39 v2.toNatClampNeg)) Q))) : am_J m7_take (D + 1) 37 [.ref 30, .null, .int v2] [.int s0, .int s1] mem Q := by
  refine am_iadd (pc := 37) dX7_take_37 ?_
  refine am_istoreE_n (pc := 38) 1 (loc' := [.ref 30, .int (s1 + s0), .int v2]) dX7_take_38 rfl (by decide) rfl rfl ?_
  refine am_aload_n (pc := 39) 0 dX7_take_39 rfl rfl ?_
  refine am_getR (pc := 40) (k := 9) cl7 sh30 (by decide) (by decide) f7_35 rfl dX7_take_40 ?_
  refine am_iload_n (pc := 43) 2 dX7_take_43 rfl rfl ?_
  refine am_aload_n (pc := 44) 0 dX7_take_44 rfl rfl ?_
  refine am_getR (pc := 45) (k := 15) cl7 sh30 (by decide) (by decide) f7_47 rfl dX7_take_45 ?_
  refine am_iload_n (pc := 48) 2 dX7_take_48 rfl rfl ?_
  refine am_iald (pc := 49) sh39 (by decide) h.1 dX7_take_49 ?_
  replace h := h.2
  refine am_iast (pc := 50) sh37 (by decide) h.1 dX7_take_50 ?_
  replace h := h.2
  refine am_iincE (pc := 51) (v := 1) (loc' := [.ref 30, .int (s1 + s0), .int (v2 + 1)]) dX7_take_51 rfl rfl (by decide) rfl rfl ?_
  refine am_goto (pc := 54) 8 dX7_take_54 (by decide) ?_
  exact h
set_option maxRecDepth 100000 in
set_option maxHeartbeats 4000000 in
theorem sg7_faultsWith_0 {D : Nat} {mem : am_Mem} {Q : Option Value → am_Mem → Prop} {v1 : Int32} (h : vp_in v1 8 ∧ ((¬ (mem 37 v1.toNatClampNeg) = (-9) → vp_in v1 8 ∧ (am_Ci m7_isFree D [.ref 30, .int v1, .int (mem 37 v1.toNatClampNeg)] mem (fun r_1 mem_1 => (r_1 = 0 → am_J m7_faultsWith (D + 1) 32 [.ref 30, .int v1, .null, .null] [.int 1] mem_1 Q) ∧ (¬ r_1 = 0 → am_J m7_faultsWith (D + 1) 32 [.ref 30, .int v1, .null, .null] [.int 0] mem_1 Q)))) ∧ ((mem 37 v1.toNatClampNeg) = (-9) → Q (some (.int 0)) mem))) : am_J m7_faultsWith (D + 1) 0 [.ref 30, .int v1, .null, .null] [] mem Q := by
  refine am_aload_n (pc := 0) 0 dX7_faultsWith_0 rfl rfl ?_
  refine am_getR (pc := 1) (k := 9) cl7 sh30 (by decide) (by decide) f7_35 rfl dX7_faultsWith_1 ?_
  refine am_iload_n (pc := 4) 1 dX7_faultsWith_4 rfl rfl ?_
  refine am_iald (pc := 5) sh37 (by decide) h.1 dX7_faultsWith_5 ?_
  replace h := h.2
  refine am_bipush (pc := 6) (v := -9) dX7_faultsWith_6 rfl ?_
  refine am_icmp_ne (pc := 8) 13 dX7_faultsWith_8 (by decide) (fun c => ?_) (fun c => ?_)
  · replace h := h.1 c
    refine am_aload_n (pc := 13) 0 dX7_faultsWith_13 rfl rfl ?_
    refine am_iload_n (pc := 14) 1 dX7_faultsWith_14 rfl rfl ?_
    refine am_aload_n (pc := 15) 0 dX7_faultsWith_15 rfl rfl ?_
    refine am_getR (pc := 16) (k := 9) cl7 sh30 (by decide) (by decide) f7_35 rfl dX7_faultsWith_16 ?_
    refine am_iload_n (pc := 19) 1 dX7_faultsWith_19 rfl rfl ?_
    refine am_iald (pc := 20) sh37 (by decide) h.1 dX7_faultsWith_20 ?_
    replace h := h.2
    refine am_callV (pc := 21) m7_isFree D 2 [.int v1, .int (mem 37 v1.toNatClampNeg)] (rest := []) ok7_isFree (by omega) rfl rfl sh30 (by decide) rfl l7_119 in7_isFree se7_isFree (Nat.le_of_ble_eq_true rfl) dX7_faultsWith_21 ?_
    refine am_Ci.use h (fun r_1 mem_1 h => ?_)
    show am_J m7_faultsWith (D + 1) 24 [.ref 30, .int v1, .null, .null] [.int r_1] mem_1 Q
    refine am_if_eq (pc := 24) 31 dX7_faultsWith_24 (by decide) (fun c => ?_) (fun c => ?_)
    · replace h := h.1 c
      refine am_iconst (pc := 31) (v := 1) dX7_faultsWith_31 rfl ?_
      exact h
    · replace h := h.2 c
      refine am_iconst (pc := 27) (v := 0) dX7_faultsWith_27 rfl ?_
      refine am_goto (pc := 28) 32 dX7_faultsWith_28 (by decide) ?_
      exact h
  · replace h := h.2 c
    refine am_iconst (pc := 11) (v := 0) dX7_faultsWith_11 rfl ?_
    exact am_ireturn rfl dX7_faultsWith_12 h
set_option maxRecDepth 100000 in
set_option maxHeartbeats 4000000 in
theorem sg7_faultsWith_32 {D : Nat} {mem : am_Mem} {Q : Option Value → am_Mem → Prop} {v1 : Int32} {s0 : Int32} (h : am_J m7_faultsWith (D + 1) 35 [.ref 30, .int v1, .int s0, .int 0] [] mem Q) : am_J m7_faultsWith (D + 1) 32 [.ref 30, .int v1, .null, .null] [.int s0] mem Q := by
  refine am_istoreE_n (pc := 32) 2 (loc' := [.ref 30, .int v1, .int s0, .null]) dX7_faultsWith_32 rfl (by decide) rfl rfl ?_
  refine am_iconst (pc := 33) (v := 0) dX7_faultsWith_33 rfl ?_
  refine am_istoreE_n (pc := 34) 3 (loc' := [.ref 30, .int v1, .int s0, .int 0]) dX7_faultsWith_34 rfl (by decide) rfl rfl ?_
  exact h
set_option maxRecDepth 100000 in
set_option maxHeartbeats 4000000 in
theorem sg7_faultsWith_35 {D : Nat} {mem : am_Mem} {Q : Option Value → am_Mem → Prop} {v1 : Int32} {v2 : Int32} {v3 : Int32} (h : ((mem 30 2) ≤ v3 → Q (some (.int v2)) mem) ∧ (¬ (mem 30 2) ≤ v3 → (v3 = v1 → am_J m7_faultsWith (D + 1) 85 [.ref 30, .int v1, .null, .int v3] [.int v2] mem Q) ∧ (¬ v3 = v1 → vp_in v3 8 ∧ (((mem 37 v3.toNatClampNeg) = (-9) → am_J m7_faultsWith (D + 1) 85 [.ref 30, .int v1, .null, .int v3] [.int v2] mem Q) ∧ (¬ (mem 37 v3.toNatClampNeg) = (-9) → vp_in v1 8 ∧ (vp_in v3 8 ∧ (am_Ci m7_clashes D [.ref 30, .int v1, .int (mem 37 v1.toNatClampNeg), .int v3, .int (mem 37 v3.toNatClampNeg)] mem (fun r_1 mem_1 => (r_1 = 0 → am_J m7_faultsWith (D + 1) 85 [.ref 30, .int v1, .null, .int v3] [.int v2] mem_1 Q) ∧ (¬ r_1 = 0 → am_J m7_faultsWith (D + 1) 86 [.ref 30, .int v1, .null, .int v3] [.int 1, .int v2] mem_1 Q))))))))) : am_J m7_faultsWith (D + 1) 35 [.ref 30, .int v1, .int v2, .int v3] [] mem Q := by
  refine am_iload_n (pc := 35) 3 dX7_faultsWith_35 rfl rfl ?_
  refine am_aload_n (pc := 36) 0 dX7_faultsWith_36 rfl rfl ?_
  refine am_getI (pc := 37) (k := 2) cl7 sh30 (by decide) (by decide) f7_74 rfl dX7_faultsWith_37 ?_
  refine am_icmp_ge (pc := 40) 94 dX7_faultsWith_40 (by decide) (fun c => ?_) (fun c => ?_)
  · replace h := h.1 c
    refine am_iload_n (pc := 94) 2 dX7_faultsWith_94 rfl rfl ?_
    exact am_ireturn rfl dX7_faultsWith_95 h
  · replace h := h.2 c
    refine am_iload_n (pc := 43) 2 dX7_faultsWith_43 rfl rfl ?_
    refine am_iload_n (pc := 44) 3 dX7_faultsWith_44 rfl rfl ?_
    refine am_iload_n (pc := 45) 1 dX7_faultsWith_45 rfl rfl ?_
    refine am_icmp_eq (pc := 46) 85 dX7_faultsWith_46 (by decide) (fun c => ?_) (fun c => ?_)
    · replace h := h.1 c
      exact am_drop [2] h
    · replace h := h.2 c
      refine am_aload_n (pc := 49) 0 dX7_faultsWith_49 rfl rfl ?_
      refine am_getR (pc := 50) (k := 9) cl7 sh30 (by decide) (by decide) f7_35 rfl dX7_faultsWith_50 ?_
      refine am_iload_n (pc := 53) 3 dX7_faultsWith_53 rfl rfl ?_
      refine am_iald (pc := 54) sh37 (by decide) h.1 dX7_faultsWith_54 ?_
      replace h := h.2
      refine am_bipush (pc := 55) (v := -9) dX7_faultsWith_55 rfl ?_
      refine am_icmp_eq (pc := 57) 85 dX7_faultsWith_57 (by decide) (fun c => ?_) (fun c => ?_)
      · replace h := h.1 c
        exact am_drop [2] h
      · replace h := h.2 c
        refine am_aload_n (pc := 60) 0 dX7_faultsWith_60 rfl rfl ?_
        refine am_iload_n (pc := 61) 1 dX7_faultsWith_61 rfl rfl ?_
        refine am_aload_n (pc := 62) 0 dX7_faultsWith_62 rfl rfl ?_
        refine am_getR (pc := 63) (k := 9) cl7 sh30 (by decide) (by decide) f7_35 rfl dX7_faultsWith_63 ?_
        refine am_iload_n (pc := 66) 1 dX7_faultsWith_66 rfl rfl ?_
        refine am_iald (pc := 67) sh37 (by decide) h.1 dX7_faultsWith_67 ?_
        replace h := h.2
        refine am_iload_n (pc := 68) 3 dX7_faultsWith_68 rfl rfl ?_
        refine am_aload_n (pc := 69) 0 dX7_faultsWith_69 rfl rfl ?_
        refine am_getR (pc := 70) (k := 9) cl7 sh30 (by decide) (by decide) f7_35 rfl dX7_faultsWith_70 ?_
        refine am_iload_n (pc := 73) 3 dX7_faultsWith_73 rfl rfl ?_
        refine am_iald (pc := 74) sh37 (by decide) h.1 dX7_faultsWith_74 ?_
        replace h := h.2
        refine am_callV (pc := 75) m7_clashes D 4 [.int v1, .int (mem 37 v1.toNatClampNeg), .int v3, .int (mem 37 v3.toNatClampNeg)] (rest := [.int v2]) ok7_clashes (by omega) rfl rfl sh30 (by decide) rfl l7_123 in7_clashes se7_clashes (Nat.le_of_ble_eq_true rfl) dX7_faultsWith_75 ?_
        refine am_Ci.use h (fun r_1 mem_1 h => ?_)
        show am_J m7_faultsWith (D + 1) 78 [.ref 30, .int v1, .int v2, .int v3] [.int r_1, .int v2] mem_1 Q
        refine am_if_eq (pc := 78) 85 dX7_faultsWith_78 (by decide) (fun c => ?_) (fun c => ?_)
        · replace h := h.1 c
          exact am_drop [2] h
        · replace h := h.2 c
          refine am_iconst (pc := 81) (v := 1) dX7_faultsWith_81 rfl ?_
          refine am_goto (pc := 82) 86 dX7_faultsWith_82 (by decide) ?_
          exact am_drop [2] h
set_option maxRecDepth 100000 in
set_option maxHeartbeats 4000000 in
theorem sg7_faultsWith_85 {D : Nat} {mem : am_Mem} {Q : Option Value → am_Mem → Prop} {v1 : Int32} {v3 : Int32} {s0 : Int32} (h : am_J m7_faultsWith (D + 1) 86 [.ref 30, .int v1, .null, .int v3] [.int 0, .int s0] mem Q) : am_J m7_faultsWith (D + 1) 85 [.ref 30, .int v1, .null, .int v3] [.int s0] mem Q := by
  refine am_iconst (pc := 85) (v := 0) dX7_faultsWith_85 rfl ?_
  exact h
set_option maxRecDepth 100000 in
set_option maxHeartbeats 4000000 in
theorem sg7_faultsWith_86 {D : Nat} {mem : am_Mem} {Q : Option Value → am_Mem → Prop} {v1 : Int32} {v3 : Int32} {s0 : Int32} {s1 : Int32} (h : am_J m7_faultsWith (D + 1) 35 [.ref 30, .int v1, .int (s1 + s0), .int (v3 + 1)] [] mem Q) : am_J m7_faultsWith (D + 1) 86 [.ref 30, .int v1, .null, .int v3] [.int s0, .int s1] mem Q := by
  refine am_iadd (pc := 86) dX7_faultsWith_86 ?_
  refine am_istoreE_n (pc := 87) 2 (loc' := [.ref 30, .int v1, .int (s1 + s0), .int v3]) dX7_faultsWith_87 rfl (by decide) rfl rfl ?_
  refine am_iincE (pc := 88) (v := 1) (loc' := [.ref 30, .int v1, .int (s1 + s0), .int (v3 + 1)]) dX7_faultsWith_88 rfl rfl (by decide) rfl rfl ?_
  refine am_goto (pc := 91) 35 dX7_faultsWith_91 (by decide) ?_
  exact h
set_option maxRecDepth 100000 in
set_option maxHeartbeats 4000000 in
theorem sg7_faultsNow_0 {D : Nat} {mem : am_Mem} {Q : Option Value → am_Mem → Prop}  (h : am_J m7_faultsNow (D + 1) 4 [.ref 30, .int 0, .int 0, .null] [] mem Q) : am_J m7_faultsNow (D + 1) 0 [.ref 30, .null, .null, .null] [] mem Q := by
  refine am_iconst (pc := 0) (v := 0) dX7_faultsNow_0 rfl ?_
  refine am_istoreE_n (pc := 1) 1 (loc' := [.ref 30, .int 0, .null, .null]) dX7_faultsNow_1 rfl (by decide) rfl rfl ?_
  refine am_iconst (pc := 2) (v := 0) dX7_faultsNow_2 rfl ?_
  refine am_istoreE_n (pc := 3) 2 (loc' := [.ref 30, .int 0, .int 0, .null]) dX7_faultsNow_3 rfl (by decide) rfl rfl ?_
  exact h
set_option maxRecDepth 100000 in
set_option maxHeartbeats 4000000 in
theorem sg7_faultsNow_4 {D : Nat} {mem : am_Mem} {Q : Option Value → am_Mem → Prop} {v1 : Int32} {v2 : Int32} (h : ((mem 30 2) ≤ v2 → Q (some (.int (v1 / 2))) mem) ∧ (¬ (mem 30 2) ≤ v2 → vp_in v2 8 ∧ (((mem 37 v2.toNatClampNeg) = (-9) → am_J m7_faultsNow (D + 1) 37 [.ref 30, .int v1, .int v2, .null] [] mem Q) ∧ (¬ (mem 37 v2.toNatClampNeg) = (-9) → vp_in v2 8 ∧ (am_Ci m7_isFree D [.ref 30, .int v2, .int (mem 37 v2.toNatClampNeg)] mem (fun r_1 mem_1 => (r_1 = 0 → am_J m7_faultsNow (D + 1) 42 [.ref 30, .int v1, .int v2, .null] [.int 1] mem_1 Q) ∧ (¬ r_1 = 0 → am_J m7_faultsNow (D + 1) 37 [.ref 30, .int v1, .int v2, .null] [] mem_1 Q))))))) : am_J m7_faultsNow (D + 1) 4 [.ref 30, .int v1, .int v2, .null] [] mem Q := by
  refine am_iload_n (pc := 4) 2 dX7_faultsNow_4 rfl rfl ?_
  refine am_aload_n (pc := 5) 0 dX7_faultsNow_5 rfl rfl ?_
  refine am_getI (pc := 6) (k := 2) cl7 sh30 (by decide) (by decide) f7_74 rfl dX7_faultsNow_6 ?_
  refine am_icmp_ge (pc := 9) 59 dX7_faultsNow_9 (by decide) (fun c => ?_) (fun c => ?_)
  · replace h := h.1 c
    refine am_iload_n (pc := 59) 1 dX7_faultsNow_59 rfl rfl ?_
    refine am_iconst (pc := 60) (v := 2) dX7_faultsNow_60 rfl ?_
    refine am_idiv (pc := 61) dX7_faultsNow_61 (by decide) ?_
    exact am_ireturn rfl dX7_faultsNow_62 h
  · replace h := h.2 c
    refine am_aload_n (pc := 12) 0 dX7_faultsNow_12 rfl rfl ?_
    refine am_getR (pc := 13) (k := 9) cl7 sh30 (by decide) (by decide) f7_35 rfl dX7_faultsNow_13 ?_
    refine am_iload_n (pc := 16) 2 dX7_faultsNow_16 rfl rfl ?_
    refine am_iald (pc := 17) sh37 (by decide) h.1 dX7_faultsNow_17 ?_
    replace h := h.2
    refine am_bipush (pc := 18) (v := -9) dX7_faultsNow_18 rfl ?_
    refine am_icmp_eq (pc := 20) 37 dX7_faultsNow_20 (by decide) (fun c => ?_) (fun c => ?_)
    · replace h := h.1 c
      exact h
    · replace h := h.2 c
      refine am_aload_n (pc := 23) 0 dX7_faultsNow_23 rfl rfl ?_
      refine am_iload_n (pc := 24) 2 dX7_faultsNow_24 rfl rfl ?_
      refine am_aload_n (pc := 25) 0 dX7_faultsNow_25 rfl rfl ?_
      refine am_getR (pc := 26) (k := 9) cl7 sh30 (by decide) (by decide) f7_35 rfl dX7_faultsNow_26 ?_
      refine am_iload_n (pc := 29) 2 dX7_faultsNow_29 rfl rfl ?_
      refine am_iald (pc := 30) sh37 (by decide) h.1 dX7_faultsNow_30 ?_
      replace h := h.2
      refine am_callV (pc := 31) m7_isFree D 2 [.int v2, .int (mem 37 v2.toNatClampNeg)] (rest := []) ok7_isFree (by omega) rfl rfl sh30 (by decide) rfl l7_119 in7_isFree se7_isFree (Nat.le_of_ble_eq_true rfl) dX7_faultsNow_31 ?_
      refine am_Ci.use h (fun r_1 mem_1 h => ?_)
      show am_J m7_faultsNow (D + 1) 34 [.ref 30, .int v1, .int v2, .null] [.int r_1] mem_1 Q
      refine am_if_eq (pc := 34) 41 dX7_faultsNow_34 (by decide) (fun c => ?_) (fun c => ?_)
      · replace h := h.1 c
        refine am_iconst (pc := 41) (v := 1) dX7_faultsNow_41 rfl ?_
        exact h
      · replace h := h.2 c
        exact h
set_option maxRecDepth 100000 in
set_option maxHeartbeats 4000000 in
theorem sg7_faultsNow_37 {D : Nat} {mem : am_Mem} {Q : Option Value → am_Mem → Prop} {v1 : Int32} {v2 : Int32} (h : am_J m7_faultsNow (D + 1) 42 [.ref 30, .int v1, .int v2, .null] [.int 0] mem Q) : am_J m7_faultsNow (D + 1) 37 [.ref 30, .int v1, .int v2, .null] [] mem Q := by
  refine am_iconst (pc := 37) (v := 0) dX7_faultsNow_37 rfl ?_
  refine am_goto (pc := 38) 42 dX7_faultsNow_38 (by decide) ?_
  exact h
set_option maxRecDepth 100000 in
set_option maxHeartbeats 4000000 in
theorem sg7_faultsNow_42 {D : Nat} {mem : am_Mem} {Q : Option Value → am_Mem → Prop} {v1 : Int32} {v2 : Int32} {s0 : Int32} (h : am_Ci m7_faultsWith D [.ref 30, .int v2] mem (fun r_1 mem_1 => am_J m7_faultsNow (D + 1) 4 [.ref 30, .int (v1 + (r_1 + s0)), .int (v2 + 1), .null] [] mem_1 Q)) : am_J m7_faultsNow (D + 1) 42 [.ref 30, .int v1, .int v2, .null] [.int s0] mem Q := by
  refine am_istoreE_n (pc := 42) 3 (loc' := [.ref 30, .int v1, .int v2, .int s0]) dX7_faultsNow_42 rfl (by decide) rfl rfl ?_
  refine am_iload_n (pc := 43) 1 dX7_faultsNow_43 rfl rfl ?_
  refine am_aload_n (pc := 44) 0 dX7_faultsNow_44 rfl rfl ?_
  refine am_iload_n (pc := 45) 2 dX7_faultsNow_45 rfl rfl ?_
  refine am_callV (pc := 46) m7_faultsWith D 1 [.int v2] (rest := [.int v1]) ok7_faultsWith (by omega) rfl rfl sh30 (by decide) rfl l7_153 in7_faultsWith se7_faultsWith (Nat.le_of_ble_eq_true rfl) dX7_faultsNow_46 ?_
  refine am_Ci.use h (fun r_1 mem_1 h => ?_)
  show am_J m7_faultsNow (D + 1) 49 [.ref 30, .int v1, .int v2, .int s0] [.int r_1, .int v1] mem_1 Q
  refine am_iload_n (pc := 49) 3 dX7_faultsNow_49 rfl rfl ?_
  refine am_iadd (pc := 50) dX7_faultsNow_50 ?_
  refine am_iadd (pc := 51) dX7_faultsNow_51 ?_
  refine am_istoreE_n (pc := 52) 1 (loc' := [.ref 30, .int (v1 + (r_1 + s0)), .int v2, .int s0]) dX7_faultsNow_52 rfl (by decide) rfl rfl ?_
  refine am_iincE (pc := 53) (v := 1) (loc' := [.ref 30, .int (v1 + (r_1 + s0)), .int (v2 + 1), .int s0]) dX7_faultsNow_53 rfl rfl (by decide) rfl rfl ?_
  refine am_goto (pc := 56) 4 dX7_faultsNow_56 (by decide) ?_
  exact am_drop [3] h
set_option maxRecDepth 100000 in
set_option maxHeartbeats 4000000 in
theorem sg7_faults_0 {D : Nat} {mem : am_Mem} {Q : Option Value → am_Mem → Prop}  (h : am_Ci m7_faultsNow D [.ref 30] mem (fun r_1 mem_1 => Q (some (.int r_1)) mem_1)) : am_J m7_faults (D + 1) 0 [.ref 30] [] mem Q := by
  refine am_aload_n (pc := 0) 0 dX7_faults_0 rfl rfl ?_
  refine am_callV (pc := 1) m7_faultsNow D 0 [] (rest := []) ok7_faultsNow (by omega) rfl rfl sh30 (by decide) rfl l7_156 in7_faultsNow se7_faultsNow (Nat.le_of_ble_eq_true rfl) dX7_faults_1 ?_
  refine am_Ci.use h (fun r_1 mem_1 h => ?_)
  show am_J m7_faults (D + 1) 4 [.ref 30] [.int r_1] mem_1 Q
  exact am_ireturn rfl dX7_faults_4 h
set_option maxRecDepth 100000 in
set_option maxHeartbeats 4000000 in
theorem sg7_faultsOf_0 {D : Nat} {mem : am_Mem} {Q : Option Value → am_Mem → Prop} {v1 : Int32} (h : am_Ci m7_isSite D [.ref 30, .int v1] mem (fun r_1 mem_1 => (r_1 = 0 → Q (some (.int (-1))) mem_1) ∧ (¬ r_1 = 0 → am_Ci m7_faultsWith D [.ref 30, .int v1] mem_1 (fun r_2 mem_2 => Q (some (.int r_2)) mem_2)))) : am_J m7_faultsOf (D + 1) 0 [.ref 30, .int v1] [] mem Q := by
  refine am_aload_n (pc := 0) 0 dX7_faultsOf_0 rfl rfl ?_
  refine am_iload_n (pc := 1) 1 dX7_faultsOf_1 rfl rfl ?_
  refine am_callV (pc := 2) m7_isSite D 1 [.int v1] (rest := []) ok7_isSite (by omega) rfl rfl sh30 (by decide) rfl l7_93 in7_isSite se7_isSite (Nat.le_of_ble_eq_true rfl) dX7_faultsOf_2 ?_
  refine am_Ci.use h (fun r_1 mem_1 h => ?_)
  show am_J m7_faultsOf (D + 1) 5 [.ref 30, .int v1] [.int r_1] mem_1 Q
  refine am_if_eq (pc := 5) 16 dX7_faultsOf_5 (by decide) (fun c => ?_) (fun c => ?_)
  · replace h := h.1 c
    refine am_iconst (pc := 16) (v := -1) dX7_faultsOf_16 rfl ?_
    exact am_ireturn rfl dX7_faultsOf_17 h
  · replace h := h.2 c
    refine am_aload_n (pc := 8) 0 dX7_faultsOf_8 rfl rfl ?_
    refine am_iload_n (pc := 9) 1 dX7_faultsOf_9 rfl rfl ?_
    refine am_callV (pc := 10) m7_faultsWith D 1 [.int v1] (rest := []) ok7_faultsWith (by omega) rfl rfl sh30 (by decide) rfl l7_153 in7_faultsWith se7_faultsWith (Nat.le_of_ble_eq_true rfl) dX7_faultsOf_10 ?_
    refine am_Ci.use h (fun r_2 mem_2 h => ?_)
    show am_J m7_faultsOf (D + 1) 13 [.ref 30, .int v1] [.int r_2] mem_2 Q
    refine am_goto (pc := 13) 17 dX7_faultsOf_13 (by decide) ?_
    exact am_ireturn rfl dX7_faultsOf_17 h
set_option maxRecDepth 100000 in
set_option maxHeartbeats 4000000 in
theorem sg7_stirOnce_0 {D : Nat} {mem : am_Mem} {Q : Option Value → am_Mem → Prop}  (h : am_Ci m7_faultsNow D [.ref 30] mem (fun r_1 mem_1 => am_J m7_stirOnce (D + 1) 10 [.ref 30, .int r_1, .int ((-9)), .int 0, .null, .null, .null] [] mem_1 Q)) : am_J m7_stirOnce (D + 1) 0 [.ref 30, .null, .null, .null, .null, .null, .null] [] mem Q := by
  refine am_aload_n (pc := 0) 0 dX7_stirOnce_0 rfl rfl ?_
  refine am_callV (pc := 1) m7_faultsNow D 0 [] (rest := []) ok7_faultsNow (by omega) rfl rfl sh30 (by decide) rfl l7_156 in7_faultsNow se7_faultsNow (Nat.le_of_ble_eq_true rfl) dX7_stirOnce_1 ?_
  refine am_Ci.use h (fun r_1 mem_1 h => ?_)
  show am_J m7_stirOnce (D + 1) 4 [.ref 30, .null, .null, .null, .null, .null, .null] [.int r_1] mem_1 Q
  refine am_istoreE_n (pc := 4) 1 (loc' := [.ref 30, .int r_1, .null, .null, .null, .null, .null]) dX7_stirOnce_4 rfl (by decide) rfl rfl ?_
  refine am_bipush (pc := 5) (v := -9) dX7_stirOnce_5 rfl ?_
  refine am_istoreE_n (pc := 7) 2 (loc' := [.ref 30, .int r_1, .int ((-9)), .null, .null, .null, .null]) dX7_stirOnce_7 rfl (by decide) rfl rfl ?_
  refine am_iconst (pc := 8) (v := 0) dX7_stirOnce_8 rfl ?_
  refine am_istoreE_n (pc := 9) 3 (loc' := [.ref 30, .int r_1, .int ((-9)), .int 0, .null, .null, .null]) dX7_stirOnce_9 rfl (by decide) rfl rfl ?_
  exact h
set_option maxRecDepth 100000 in
set_option maxHeartbeats 4000000 in
theorem sg7_stirOnce_10 {D : Nat} {mem : am_Mem} {Q : Option Value → am_Mem → Prop} {v1 : Int32} {v2 : Int32} {v3 : Int32} (h : ((mem 30 2) ≤ v3 → (v2 = (-9) → Q (some (.int v2)) mem) ∧ (¬ v2 = (-9) → vp_in (v2 / 10) 8 ∧ (Q (some (.int v2)) (am_set mem 37 (v2 / 10).toNatClampNeg (v2 - v2 / 10 * 10))))) ∧ (¬ (mem 30 2) ≤ v3 → vp_in v3 8 ∧ (am_J m7_stirOnce (D + 1) 29 [.ref 30, .int v1, .int v2, .int v3, .int (mem 37 v3.toNatClampNeg), .int 0, .null] [] mem Q))) : am_J m7_stirOnce (D + 1) 10 [.ref 30, .int v1, .int v2, .int v3, .null, .null, .null] [] mem Q := by
  refine am_iload_n (pc := 10) 3 dX7_stirOnce_10 rfl rfl ?_
  refine am_aload_n (pc := 11) 0 dX7_stirOnce_11 rfl rfl ?_
  refine am_getI (pc := 12) (k := 2) cl7 sh30 (by decide) (by decide) f7_74 rfl dX7_stirOnce_12 ?_
  refine am_icmp_ge (pc := 15) 107 dX7_stirOnce_15 (by decide) (fun c => ?_) (fun c => ?_)
  · replace h := h.1 c
    refine am_iload_n (pc := 107) 2 dX7_stirOnce_107 rfl rfl ?_
    refine am_bipush (pc := 108) (v := -9) dX7_stirOnce_108 rfl ?_
    refine am_icmp_eq (pc := 110) 126 dX7_stirOnce_110 (by decide) (fun c => ?_) (fun c => ?_)
    · replace h := h.1 c
      refine am_iload_n (pc := 126) 2 dX7_stirOnce_126 rfl rfl ?_
      exact am_ireturn rfl dX7_stirOnce_127 h
    · replace h := h.2 c
      refine am_aload_n (pc := 113) 0 dX7_stirOnce_113 rfl rfl ?_
      refine am_getR (pc := 114) (k := 9) cl7 sh30 (by decide) (by decide) f7_35 rfl dX7_stirOnce_114 ?_
      refine am_iload_n (pc := 117) 2 dX7_stirOnce_117 rfl rfl ?_
      refine am_bipush (pc := 118) (v := 10) dX7_stirOnce_118 rfl ?_
      refine am_idiv (pc := 120) dX7_stirOnce_120 (by decide) ?_
      refine am_iload_n (pc := 121) 2 dX7_stirOnce_121 rfl rfl ?_
      refine am_bipush (pc := 122) (v := 10) dX7_stirOnce_122 rfl ?_
      refine am_irem (pc := 124) dX7_stirOnce_124 (by decide) ?_
      refine am_iast (pc := 125) sh37 (by decide) h.1 dX7_stirOnce_125 ?_
      replace h := h.2
      refine am_iload_n (pc := 126) 2 dX7_stirOnce_126 rfl rfl ?_
      exact am_ireturn rfl dX7_stirOnce_127 h
  · replace h := h.2 c
    refine am_aload_n (pc := 18) 0 dX7_stirOnce_18 rfl rfl ?_
    refine am_getR (pc := 19) (k := 9) cl7 sh30 (by decide) (by decide) f7_35 rfl dX7_stirOnce_19 ?_
    refine am_iload_n (pc := 22) 3 dX7_stirOnce_22 rfl rfl ?_
    refine am_iald (pc := 23) sh37 (by decide) h.1 dX7_stirOnce_23 ?_
    replace h := h.2
    refine am_istoreE (pc := 24) (loc' := [.ref 30, .int v1, .int v2, .int v3, .int (mem 37 v3.toNatClampNeg), .null, .null]) dX7_stirOnce_24 (by decide) rfl rfl ?_
    refine am_iconst (pc := 26) (v := 0) dX7_stirOnce_26 rfl ?_
    refine am_istoreE (pc := 27) (loc' := [.ref 30, .int v1, .int v2, .int v3, .int (mem 37 v3.toNatClampNeg), .int 0, .null]) dX7_stirOnce_27 (by decide) rfl rfl ?_
    exact h
set_option maxRecDepth 100000 in
set_option maxHeartbeats 4000000 in
theorem sg7_stirOnce_29 {D : Nat} {mem : am_Mem} {Q : Option Value → am_Mem → Prop} {v1 : Int32} {v2 : Int32} {v3 : Int32} {v4 : Int32} {v5 : Int32} (h : (4 ≤ v5 → am_J m7_stirOnce (D + 1) 93 [.ref 30, .int v1, .int v2, .int v3, .int v4, .null, .null] [] mem Q) ∧ (¬ 4 ≤ v5 → (v4 = (-9) → am_J m7_stirOnce (D + 1) 93 [.ref 30, .int v1, .int v2, .int v3, .int v4, .null, .null] [] mem Q) ∧ (¬ v4 = (-9) → vp_in v3 8 ∧ (am_Ci m7_faultsNow D [.ref 30] (am_set mem 37 v3.toNatClampNeg v5) (fun r_1 mem_1 => (v1 ≤ r_1 → am_J m7_stirOnce (D + 1) 73 [.ref 30, .int v1, .null, .int v3, .int v4, .int v5, .int r_1] [.int v2] mem_1 Q) ∧ (¬ v1 ≤ r_1 → am_J m7_stirOnce (D + 1) 73 [.ref 30, .int v1, .null, .int v3, .int v4, .int v5, .int r_1] [.int (((10 : Int32) * v3) + v5)] mem_1 Q)))))) : am_J m7_stirOnce (D + 1) 29 [.ref 30, .int v1, .int v2, .int v3, .int v4, .int v5, .null] [] mem Q := by
  refine am_iload (pc := 29) dX7_stirOnce_29 rfl ?_
  refine am_iconst (pc := 31) (v := 4) dX7_stirOnce_31 rfl ?_
  refine am_icmp_ge (pc := 32) 93 dX7_stirOnce_32 (by decide) (fun c => ?_) (fun c => ?_)
  · replace h := h.1 c
    exact am_drop [5] h
  · replace h := h.2 c
    refine am_iload (pc := 35) dX7_stirOnce_35 rfl ?_
    refine am_bipush (pc := 37) (v := -9) dX7_stirOnce_37 rfl ?_
    refine am_icmp_eq (pc := 39) 93 dX7_stirOnce_39 (by decide) (fun c => ?_) (fun c => ?_)
    · replace h := h.1 c
      exact am_drop [5] h
    · replace h := h.2 c
      refine am_aload_n (pc := 42) 0 dX7_stirOnce_42 rfl rfl ?_
      refine am_getR (pc := 43) (k := 9) cl7 sh30 (by decide) (by decide) f7_35 rfl dX7_stirOnce_43 ?_
      refine am_iload_n (pc := 46) 3 dX7_stirOnce_46 rfl rfl ?_
      refine am_iload (pc := 47) dX7_stirOnce_47 rfl ?_
      refine am_iast (pc := 49) sh37 (by decide) h.1 dX7_stirOnce_49 ?_
      replace h := h.2
      refine am_aload_n (pc := 50) 0 dX7_stirOnce_50 rfl rfl ?_
      refine am_callV (pc := 51) m7_faultsNow D 0 [] (rest := []) ok7_faultsNow (by omega) rfl rfl sh30 (by decide) rfl l7_156 in7_faultsNow se7_faultsNow (Nat.le_of_ble_eq_true rfl) dX7_stirOnce_51 ?_
      refine am_Ci.use h (fun r_1 mem_1 h => ?_)
      show am_J m7_stirOnce (D + 1) 54 [.ref 30, .int v1, .int v2, .int v3, .int v4, .int v5, .null] [.int r_1] mem_1 Q
      refine am_istoreE (pc := 54) (loc' := [.ref 30, .int v1, .int v2, .int v3, .int v4, .int v5, .int r_1]) dX7_stirOnce_54 (by decide) rfl rfl ?_
      refine am_iload (pc := 56) dX7_stirOnce_56 rfl ?_
      refine am_iload_n (pc := 58) 1 dX7_stirOnce_58 rfl rfl ?_
      refine am_icmp_ge (pc := 59) 72 dX7_stirOnce_59 (by decide) (fun c => ?_) (fun c => ?_)
      · replace h := h.1 c
        refine am_iload_n (pc := 72) 2 dX7_stirOnce_72 rfl rfl ?_
        exact am_drop [2] h
      · replace h := h.2 c
        refine am_bipush (pc := 62) (v := 10) dX7_stirOnce_62 rfl ?_
        refine am_iload_n (pc := 64) 3 dX7_stirOnce_64 rfl rfl ?_
        refine am_imul (pc := 65) dX7_stirOnce_65 ?_
        refine am_iload (pc := 66) dX7_stirOnce_66 rfl ?_
        refine am_iadd (pc := 68) dX7_stirOnce_68 ?_
        refine am_goto (pc := 69) 73 dX7_stirOnce_69 (by decide) ?_
        exact am_drop [2] h
set_option maxRecDepth 100000 in
set_option maxHeartbeats 4000000 in
theorem sg7_stirOnce_73 {D : Nat} {mem : am_Mem} {Q : Option Value → am_Mem → Prop} {v1 : Int32} {v3 : Int32} {v4 : Int32} {v5 : Int32} {v6 : Int32} {s0 : Int32} (h : (v1 ≤ v6 → am_J m7_stirOnce (D + 1) 86 [.ref 30, .null, .int s0, .int v3, .int v4, .int v5, .null] [.int v1] mem Q) ∧ (¬ v1 ≤ v6 → am_J m7_stirOnce (D + 1) 86 [.ref 30, .null, .int s0, .int v3, .int v4, .int v5, .null] [.int v6] mem Q)) : am_J m7_stirOnce (D + 1) 73 [.ref 30, .int v1, .null, .int v3, .int v4, .int v5, .int v6] [.int s0] mem Q := by
  refine am_istoreE_n (pc := 73) 2 (loc' := [.ref 30, .int v1, .int s0, .int v3, .int v4, .int v5, .int v6]) dX7_stirOnce_73 rfl (by decide) rfl rfl ?_
  refine am_iload (pc := 74) dX7_stirOnce_74 rfl ?_
  refine am_iload_n (pc := 76) 1 dX7_stirOnce_76 rfl rfl ?_
  refine am_icmp_ge (pc := 77) 85 dX7_stirOnce_77 (by decide) (fun c => ?_) (fun c => ?_)
  · replace h := h.1 c
    refine am_iload_n (pc := 85) 1 dX7_stirOnce_85 rfl rfl ?_
    exact am_drop [1, 6] h
  · replace h := h.2 c
    refine am_iload (pc := 80) dX7_stirOnce_80 rfl ?_
    refine am_goto (pc := 82) 86 dX7_stirOnce_82 (by decide) ?_
    exact am_drop [1, 6] h
set_option maxRecDepth 100000 in
set_option maxHeartbeats 4000000 in
theorem sg7_stirOnce_86 {D : Nat} {mem : am_Mem} {Q : Option Value → am_Mem → Prop} {v2 : Int32} {v3 : Int32} {v4 : Int32} {v5 : Int32} {s0 : Int32} (h : am_J m7_stirOnce (D + 1) 29 [.ref 30, .int s0, .int v2, .int v3, .int v4, .int (v5 + 1), .null] [] mem Q) : am_J m7_stirOnce (D + 1) 86 [.ref 30, .null, .int v2, .int v3, .int v4, .int v5, .null] [.int s0] mem Q := by
  refine am_istoreE_n (pc := 86) 1 (loc' := [.ref 30, .int s0, .int v2, .int v3, .int v4, .int v5, .null]) dX7_stirOnce_86 rfl (by decide) rfl rfl ?_
  refine am_iincE (pc := 87) (v := 1) (loc' := [.ref 30, .int s0, .int v2, .int v3, .int v4, .int (v5 + 1), .null]) dX7_stirOnce_87 rfl rfl (by decide) rfl rfl ?_
  refine am_goto (pc := 90) 29 dX7_stirOnce_90 (by decide) ?_
  exact h
set_option maxRecDepth 100000 in
set_option maxHeartbeats 4000000 in
theorem sg7_stirOnce_93 {D : Nat} {mem : am_Mem} {Q : Option Value → am_Mem → Prop} {v1 : Int32} {v2 : Int32} {v3 : Int32} {v4 : Int32} (h : vp_in v3 8 ∧ (am_J m7_stirOnce (D + 1) 10 [.ref 30, .int v1, .int v2, .int (v3 + 1), .null, .null, .null] [] (am_set mem 37 v3.toNatClampNeg v4) Q)) : am_J m7_stirOnce (D + 1) 93 [.ref 30, .int v1, .int v2, .int v3, .int v4, .null, .null] [] mem Q := by
  refine am_aload_n (pc := 93) 0 dX7_stirOnce_93 rfl rfl ?_
  refine am_getR (pc := 94) (k := 9) cl7 sh30 (by decide) (by decide) f7_35 rfl dX7_stirOnce_94 ?_
  refine am_iload_n (pc := 97) 3 dX7_stirOnce_97 rfl rfl ?_
  refine am_iload (pc := 98) dX7_stirOnce_98 rfl ?_
  refine am_iast (pc := 100) sh37 (by decide) h.1 dX7_stirOnce_100 ?_
  replace h := h.2
  refine am_iincE (pc := 101) (v := 1) (loc' := [.ref 30, .int v1, .int v2, .int (v3 + 1), .int v4, .null, .null]) dX7_stirOnce_101 rfl rfl (by decide) rfl rfl ?_
  refine am_goto (pc := 104) 10 dX7_stirOnce_104 (by decide) ?_
  exact am_drop [4] h
set_option maxRecDepth 100000 in
set_option maxHeartbeats 4000000 in
theorem sg7_stir_0 {D : Nat} {mem : am_Mem} {Q : Option Value → am_Mem → Prop}  (h : am_Ci m7_stirOnce D [.ref 30] mem (fun r_1 mem_1 => Q (some (.int r_1)) mem_1)) : am_J m7_stir (D + 1) 0 [.ref 30] [] mem Q := by
  refine am_aload_n (pc := 0) 0 dX7_stir_0 rfl rfl ?_
  refine am_callV (pc := 1) m7_stirOnce D 0 [] (rest := []) ok7_stirOnce (by omega) rfl rfl sh30 (by decide) rfl l7_160 in7_stirOnce se7_stirOnce (Nat.le_of_ble_eq_true rfl) dX7_stir_1 ?_
  refine am_Ci.use h (fun r_1 mem_1 h => ?_)
  show am_J m7_stir (D + 1) 4 [.ref 30] [.int r_1] mem_1 Q
  exact am_ireturn rfl dX7_stir_4 h
set_option maxRecDepth 100000 in
set_option maxHeartbeats 4000000 in
theorem sg7_settle_0 {D : Nat} {mem : am_Mem} {Q : Option Value → am_Mem → Prop}  (h : am_J m7_settle (D + 1) 2 [.ref 30, .int 0] [] mem Q) : am_J m7_settle (D + 1) 0 [.ref 30, .null] [] mem Q := by
  refine am_iconst (pc := 0) (v := 0) dX7_settle_0 rfl ?_
  refine am_istoreE_n (pc := 1) 1 (loc' := [.ref 30, .int 0]) dX7_settle_1 rfl (by decide) rfl rfl ?_
  exact h
set_option maxRecDepth 100000 in
set_option maxHeartbeats 4000000 in
theorem sg7_settle_2 {D : Nat} {mem : am_Mem} {Q : Option Value → am_Mem → Prop} {v1 : Int32} (h : am_Ci m7_stirOnce D [.ref 30] mem (fun r_1 mem_1 => (r_1 = (-9) → Q (some (.int v1)) mem_1) ∧ (¬ r_1 = (-9) → am_J m7_settle (D + 1) 2 [.ref 30, .int (v1 + 1)] [] mem_1 Q))) : am_J m7_settle (D + 1) 2 [.ref 30, .int v1] [] mem Q := by
  refine am_aload_n (pc := 2) 0 dX7_settle_2 rfl rfl ?_
  refine am_callV (pc := 3) m7_stirOnce D 0 [] (rest := []) ok7_stirOnce (by omega) rfl rfl sh30 (by decide) rfl l7_160 in7_stirOnce se7_stirOnce (Nat.le_of_ble_eq_true rfl) dX7_settle_3 ?_
  refine am_Ci.use h (fun r_1 mem_1 h => ?_)
  show am_J m7_settle (D + 1) 6 [.ref 30, .int v1] [.int r_1] mem_1 Q
  refine am_bipush (pc := 6) (v := -9) dX7_settle_6 rfl ?_
  refine am_icmp_eq (pc := 8) 17 dX7_settle_8 (by decide) (fun c => ?_) (fun c => ?_)
  · replace h := h.1 c
    refine am_iload_n (pc := 17) 1 dX7_settle_17 rfl rfl ?_
    exact am_ireturn rfl dX7_settle_18 h
  · replace h := h.2 c
    refine am_iincE (pc := 11) (v := 1) (loc' := [.ref 30, .int (v1 + 1)]) dX7_settle_11 rfl rfl (by decide) rfl rfl ?_
    refine am_goto (pc := 14) 2 dX7_settle_14 (by decide) ?_
    exact h
set_option maxRecDepth 100000 in
set_option maxHeartbeats 4000000 in
theorem sg7_stands_0 {D : Nat} {mem : am_Mem} {Q : Option Value → am_Mem → Prop}  (h : am_Ci m7_faultsNow D [.ref 30] mem (fun r_1 mem_1 => (¬ r_1 = 0 → Q (some (.int 0)) mem_1) ∧ (r_1 = 0 → Q (some (.int 1)) mem_1))) : am_J m7_stands (D + 1) 0 [.ref 30] [] mem Q := by
  refine am_aload_n (pc := 0) 0 dX7_stands_0 rfl rfl ?_
  refine am_callV (pc := 1) m7_faultsNow D 0 [] (rest := []) ok7_faultsNow (by omega) rfl rfl sh30 (by decide) rfl l7_156 in7_faultsNow se7_faultsNow (Nat.le_of_ble_eq_true rfl) dX7_stands_1 ?_
  refine am_Ci.use h (fun r_1 mem_1 h => ?_)
  show am_J m7_stands (D + 1) 4 [.ref 30] [.int r_1] mem_1 Q
  refine am_if_ne (pc := 4) 11 dX7_stands_4 (by decide) (fun c => ?_) (fun c => ?_)
  · replace h := h.1 c
    refine am_iconst (pc := 11) (v := 0) dX7_stands_11 rfl ?_
    exact am_ireturn rfl dX7_stands_12 h
  · replace h := h.2 c
    refine am_iconst (pc := 7) (v := 1) dX7_stands_7 rfl ?_
    refine am_goto (pc := 8) 12 dX7_stands_8 (by decide) ?_
    exact am_ireturn rfl dX7_stands_12 h
set_option maxRecDepth 100000 in
set_option maxHeartbeats 4000000 in
theorem sg7_mayShow_0 {D : Nat} {mem : am_Mem} {Q : Option Value → am_Mem → Prop} {v1 : Int32} {v2 : Int32} (h : am_Ci m7_isFree D [.ref 30, .int v1, .int v2] mem (fun r_1 mem_1 => am_J m7_mayShow (D + 1) 10 [.ref 30, .int v1, .int v2, .int r_1, .int 0] [] mem_1 Q)) : am_J m7_mayShow (D + 1) 0 [.ref 30, .int v1, .int v2, .null, .null] [] mem Q := by
  refine am_aload_n (pc := 0) 0 dX7_mayShow_0 rfl rfl ?_
  refine am_iload_n (pc := 1) 1 dX7_mayShow_1 rfl rfl ?_
  refine am_iload_n (pc := 2) 2 dX7_mayShow_2 rfl rfl ?_
  refine am_callV (pc := 3) m7_isFree D 2 [.int v1, .int v2] (rest := []) ok7_isFree (by omega) rfl rfl sh30 (by decide) rfl l7_119 in7_isFree se7_isFree (Nat.le_of_ble_eq_true rfl) dX7_mayShow_3 ?_
  refine am_Ci.use h (fun r_1 mem_1 h => ?_)
  show am_J m7_mayShow (D + 1) 6 [.ref 30, .int v1, .int v2, .null, .null] [.int r_1] mem_1 Q
  refine am_istoreE_n (pc := 6) 3 (loc' := [.ref 30, .int v1, .int v2, .int r_1, .null]) dX7_mayShow_6 rfl (by decide) rfl rfl ?_
  refine am_iconst (pc := 7) (v := 0) dX7_mayShow_7 rfl ?_
  refine am_istoreE (pc := 8) (loc' := [.ref 30, .int v1, .int v2, .int r_1, .int 0]) dX7_mayShow_8 (by decide) rfl rfl ?_
  exact h
set_option maxRecDepth 100000 in
set_option maxHeartbeats 4000000 in
theorem sg7_mayShow_10 {D : Nat} {mem : am_Mem} {Q : Option Value → am_Mem → Prop} {v1 : Int32} {v2 : Int32} {v3 : Int32} {v4 : Int32} (h : ((mem 30 2) ≤ v4 → (v3 = 0 ∨ v3 = 1) ∧ Q (some (.int v3)) mem) ∧ (¬ (mem 30 2) ≤ v4 → (v3 = 0 → am_J m7_mayShow (D + 1) 57 [.ref 30, .int v1, .int v2, .null, .int v4] [] mem Q) ∧ (¬ v3 = 0 → vp_in v4 8 ∧ (((mem 43 v4.toNatClampNeg) = (-9) → am_J m7_mayShow (D + 1) 53 [.ref 30, .int v1, .int v2, .null, .int v4] [] mem Q) ∧ (¬ (mem 43 v4.toNatClampNeg) = (-9) → vp_in v4 8 ∧ (am_Ci m7_clashes D [.ref 30, .int v1, .int v2, .int v4, .int (mem 44 v4.toNatClampNeg)] mem (fun r_1 mem_1 => (¬ r_1 = 0 → am_J m7_mayShow (D + 1) 57 [.ref 30, .int v1, .int v2, .null, .int v4] [] mem_1 Q) ∧ (r_1 = 0 → am_J m7_mayShow (D + 1) 53 [.ref 30, .int v1, .int v2, .null, .int v4] [] mem_1 Q)))))))) : am_J m7_mayShow (D + 1) 10 [.ref 30, .int v1, .int v2, .int v3, .int v4] [] mem Q := by
  refine am_iload (pc := 10) dX7_mayShow_10 rfl ?_
  refine am_aload_n (pc := 12) 0 dX7_mayShow_12 rfl rfl ?_
  refine am_getI (pc := 13) (k := 2) cl7 sh30 (by decide) (by decide) f7_74 rfl dX7_mayShow_13 ?_
  refine am_icmp_ge (pc := 16) 65 dX7_mayShow_16 (by decide) (fun c => ?_) (fun c => ?_)
  · replace h := h.1 c
    refine am_iload_n (pc := 65) 3 dX7_mayShow_65 rfl rfl ?_
    exact am_zreturn rfl h.1 dX7_mayShow_66 h.2
  · replace h := h.2 c
    refine am_iload_n (pc := 19) 3 dX7_mayShow_19 rfl rfl ?_
    refine am_if_eq (pc := 20) 57 dX7_mayShow_20 (by decide) (fun c => ?_) (fun c => ?_)
    · replace h := h.1 c
      exact am_drop [3] h
    · replace h := h.2 c
      refine am_aload_n (pc := 23) 0 dX7_mayShow_23 rfl rfl ?_
      refine am_getR (pc := 24) (k := 22) cl7 sh30 (by decide) (by decide) f7_59 rfl dX7_mayShow_24 ?_
      refine am_iload (pc := 27) dX7_mayShow_27 rfl ?_
      refine am_iald (pc := 29) sh43 (by decide) h.1 dX7_mayShow_29 ?_
      replace h := h.2
      refine am_bipush (pc := 30) (v := -9) dX7_mayShow_30 rfl ?_
      refine am_icmp_eq (pc := 32) 53 dX7_mayShow_32 (by decide) (fun c => ?_) (fun c => ?_)
      · replace h := h.1 c
        exact am_drop [3] h
      · replace h := h.2 c
        refine am_aload_n (pc := 35) 0 dX7_mayShow_35 rfl rfl ?_
        refine am_iload_n (pc := 36) 1 dX7_mayShow_36 rfl rfl ?_
        refine am_iload_n (pc := 37) 2 dX7_mayShow_37 rfl rfl ?_
        refine am_iload (pc := 38) dX7_mayShow_38 rfl ?_
        refine am_aload_n (pc := 40) 0 dX7_mayShow_40 rfl rfl ?_
        refine am_getR (pc := 41) (k := 23) cl7 sh30 (by decide) (by decide) f7_62 rfl dX7_mayShow_41 ?_
        refine am_iload (pc := 44) dX7_mayShow_44 rfl ?_
        refine am_iald (pc := 46) sh44 (by decide) h.1 dX7_mayShow_46 ?_
        replace h := h.2
        refine am_callV (pc := 47) m7_clashes D 4 [.int v1, .int v2, .int v4, .int (mem 44 v4.toNatClampNeg)] (rest := []) ok7_clashes (by omega) rfl rfl sh30 (by decide) rfl l7_123 in7_clashes se7_clashes (Nat.le_of_ble_eq_true rfl) dX7_mayShow_47 ?_
        refine am_Ci.use h (fun r_1 mem_1 h => ?_)
        show am_J m7_mayShow (D + 1) 50 [.ref 30, .int v1, .int v2, .int v3, .int v4] [.int r_1] mem_1 Q
        refine am_if_ne (pc := 50) 57 dX7_mayShow_50 (by decide) (fun c => ?_) (fun c => ?_)
        · replace h := h.1 c
          exact am_drop [3] h
        · replace h := h.2 c
          exact am_drop [3] h
set_option maxRecDepth 100000 in
set_option maxHeartbeats 4000000 in
theorem sg7_mayShow_53 {D : Nat} {mem : am_Mem} {Q : Option Value → am_Mem → Prop} {v1 : Int32} {v2 : Int32} {v4 : Int32} (h : am_J m7_mayShow (D + 1) 58 [.ref 30, .int v1, .int v2, .null, .int v4] [.int 1] mem Q) : am_J m7_mayShow (D + 1) 53 [.ref 30, .int v1, .int v2, .null, .int v4] [] mem Q := by
  refine am_iconst (pc := 53) (v := 1) dX7_mayShow_53 rfl ?_
  refine am_goto (pc := 54) 58 dX7_mayShow_54 (by decide) ?_
  exact h
set_option maxRecDepth 100000 in
set_option maxHeartbeats 4000000 in
theorem sg7_mayShow_57 {D : Nat} {mem : am_Mem} {Q : Option Value → am_Mem → Prop} {v1 : Int32} {v2 : Int32} {v4 : Int32} (h : am_J m7_mayShow (D + 1) 58 [.ref 30, .int v1, .int v2, .null, .int v4] [.int 0] mem Q) : am_J m7_mayShow (D + 1) 57 [.ref 30, .int v1, .int v2, .null, .int v4] [] mem Q := by
  refine am_iconst (pc := 57) (v := 0) dX7_mayShow_57 rfl ?_
  exact h
set_option maxRecDepth 100000 in
set_option maxHeartbeats 4000000 in
theorem sg7_mayShow_58 {D : Nat} {mem : am_Mem} {Q : Option Value → am_Mem → Prop} {v1 : Int32} {v2 : Int32} {v4 : Int32} {s0 : Int32} (h : am_J m7_mayShow (D + 1) 10 [.ref 30, .int v1, .int v2, .int s0, .int (v4 + 1)] [] mem Q) : am_J m7_mayShow (D + 1) 58 [.ref 30, .int v1, .int v2, .null, .int v4] [.int s0] mem Q := by
  refine am_istoreE_n (pc := 58) 3 (loc' := [.ref 30, .int v1, .int v2, .int s0, .int v4]) dX7_mayShow_58 rfl (by decide) rfl rfl ?_
  refine am_iincE (pc := 59) (v := 1) (loc' := [.ref 30, .int v1, .int v2, .int s0, .int (v4 + 1)]) dX7_mayShow_59 rfl rfl (by decide) rfl rfl ?_
  refine am_goto (pc := 62) 10 dX7_mayShow_62 (by decide) ?_
  exact h
set_option maxRecDepth 100000 in
set_option maxHeartbeats 4000000 in
theorem sg7_show_0 {D : Nat} {mem : am_Mem} {Q : Option Value → am_Mem → Prop} {v1 : Int32} {v2 : Int32} (h : am_J m7_show (D + 1) 2 [.ref 30, .int v1, .int v2, .int 0] [] mem Q) : am_J m7_show (D + 1) 0 [.ref 30, .int v1, .int v2, .null] [] mem Q := by
  refine am_iconst (pc := 0) (v := 0) dX7_show_0 rfl ?_
  refine am_istoreE_n (pc := 1) 3 (loc' := [.ref 30, .int v1, .int v2, .int 0]) dX7_show_1 rfl (by decide) rfl rfl ?_
  exact h
set_option maxRecDepth 100000 in
set_option maxHeartbeats 4000000 in
theorem sg7_show_2 {D : Nat} {mem : am_Mem} {Q : Option Value → am_Mem → Prop} {v1 : Int32} {v2 : Int32} {v3 : Int32} (h : (4 ≤ v3 → Q none mem) ∧ (¬ 4 ≤ v3 → vp_in v1 8 ∧ ((¬ (mem 43 v1.toNatClampNeg) = (-9) → Q none mem) ∧ ((mem 43 v1.toNatClampNeg) = (-9) → am_Ci m7_mayShow D [.ref 30, .int v1, .int v3] mem (fun r_1 mem_1 => (r_1 = 0 → am_J m7_show (D + 1) 41 [.ref 30, .int v1, .int v2, .int v3] [] mem_1 Q) ∧ (¬ r_1 = 0 → vp_in v1 8 ∧ (vp_in v1 8 ∧ (am_J m7_show (D + 1) 41 [.ref 30, .int v1, .int v2, .int v3] [] (am_set (am_set mem_1 43 v1.toNatClampNeg v2) 44 v1.toNatClampNeg v3) Q)))))))) : am_J m7_show (D + 1) 2 [.ref 30, .int v1, .int v2, .int v3] [] mem Q := by
  refine am_iload_n (pc := 2) 3 dX7_show_2 rfl rfl ?_
  refine am_iconst (pc := 3) (v := 4) dX7_show_3 rfl ?_
  refine am_icmp_ge (pc := 4) 47 dX7_show_4 (by decide) (fun c => ?_) (fun c => ?_)
  · replace h := h.1 c
    exact am_return rfl dX7_show_47 h
  · replace h := h.2 c
    refine am_aload_n (pc := 7) 0 dX7_show_7 rfl rfl ?_
    refine am_getR (pc := 8) (k := 22) cl7 sh30 (by decide) (by decide) f7_59 rfl dX7_show_8 ?_
    refine am_iload_n (pc := 11) 1 dX7_show_11 rfl rfl ?_
    refine am_iald (pc := 12) sh43 (by decide) h.1 dX7_show_12 ?_
    replace h := h.2
    refine am_bipush (pc := 13) (v := -9) dX7_show_13 rfl ?_
    refine am_icmp_ne (pc := 15) 47 dX7_show_15 (by decide) (fun c => ?_) (fun c => ?_)
    · replace h := h.1 c
      exact am_return rfl dX7_show_47 h
    · replace h := h.2 c
      refine am_aload_n (pc := 18) 0 dX7_show_18 rfl rfl ?_
      refine am_iload_n (pc := 19) 1 dX7_show_19 rfl rfl ?_
      refine am_iload_n (pc := 20) 3 dX7_show_20 rfl rfl ?_
      refine am_callV (pc := 21) m7_mayShow D 2 [.int v1, .int v3] (rest := []) ok7_mayShow (by omega) rfl rfl sh30 (by decide) rfl l7_163 in7_mayShow se7_mayShow (Nat.le_of_ble_eq_true rfl) dX7_show_21 ?_
      refine am_Ci.use h (fun r_1 mem_1 h => ?_)
      show am_J m7_show (D + 1) 24 [.ref 30, .int v1, .int v2, .int v3] [.int r_1] mem_1 Q
      refine am_if_eq (pc := 24) 41 dX7_show_24 (by decide) (fun c => ?_) (fun c => ?_)
      · replace h := h.1 c
        exact h
      · replace h := h.2 c
        refine am_aload_n (pc := 27) 0 dX7_show_27 rfl rfl ?_
        refine am_getR (pc := 28) (k := 22) cl7 sh30 (by decide) (by decide) f7_59 rfl dX7_show_28 ?_
        refine am_iload_n (pc := 31) 1 dX7_show_31 rfl rfl ?_
        refine am_iload_n (pc := 32) 2 dX7_show_32 rfl rfl ?_
        refine am_iast (pc := 33) sh43 (by decide) h.1 dX7_show_33 ?_
        replace h := h.2
        refine am_aload_n (pc := 34) 0 dX7_show_34 rfl rfl ?_
        refine am_getR (pc := 35) (k := 23) cl7 sh30 (by decide) (by decide) f7_62 rfl dX7_show_35 ?_
        refine am_iload_n (pc := 38) 1 dX7_show_38 rfl rfl ?_
        refine am_iload_n (pc := 39) 3 dX7_show_39 rfl rfl ?_
        refine am_iast (pc := 40) sh44 (by decide) h.1 dX7_show_40 ?_
        replace h := h.2
        exact h
set_option maxRecDepth 100000 in
set_option maxHeartbeats 4000000 in
theorem sg7_show_41 {D : Nat} {mem : am_Mem} {Q : Option Value → am_Mem → Prop} {v1 : Int32} {v2 : Int32} {v3 : Int32} (h : am_J m7_show (D + 1) 2 [.ref 30, .int v1, .int v2, .int (v3 + 1)] [] mem Q) : am_J m7_show (D + 1) 41 [.ref 30, .int v1, .int v2, .int v3] [] mem Q := by
  refine am_iincE (pc := 41) (v := 1) (loc' := [.ref 30, .int v1, .int v2, .int (v3 + 1)]) dX7_show_41 rfl rfl (by decide) rfl rfl ?_
  refine am_goto (pc := 44) 2 dX7_show_44 (by decide) ?_
  exact h
set_option maxRecDepth 100000 in
set_option maxHeartbeats 4000000 in
theorem sg7_layLevels_0 {D : Nat} {mem : am_Mem} {Q : Option Value → am_Mem → Prop}  (h : am_J m7_layLevels (D + 1) 2 [.ref 30, .int 0, .null, .null] [] mem Q) : am_J m7_layLevels (D + 1) 0 [.ref 30, .null, .null, .null] [] mem Q := by
  refine am_iconst (pc := 0) (v := 0) dX7_layLevels_0 rfl ?_
  refine am_istoreE_n (pc := 1) 1 (loc' := [.ref 30, .int 0, .null, .null]) dX7_layLevels_1 rfl (by decide) rfl rfl ?_
  exact h
set_option maxRecDepth 100000 in
set_option maxHeartbeats 4000000 in
theorem sg7_layLevels_2 {D : Nat} {mem : am_Mem} {Q : Option Value → am_Mem → Prop} {v1 : Int32} (h : ((mem 30 2) ≤ v1 → am_J m7_layLevels (D + 1) 34 [.ref 30, .int 0, .null, .null] [] mem Q) ∧ (¬ (mem 30 2) ≤ v1 → vp_in v1 8 ∧ (vp_in v1 8 ∧ (am_J m7_layLevels (D + 1) 2 [.ref 30, .int (v1 + 1), .null, .null] [] (am_set (am_set mem 43 v1.toNatClampNeg (-9)) 44 v1.toNatClampNeg (-9)) Q)))) : am_J m7_layLevels (D + 1) 2 [.ref 30, .int v1, .null, .null] [] mem Q := by
  refine am_iload_n (pc := 2) 1 dX7_layLevels_2 rfl rfl ?_
  refine am_aload_n (pc := 3) 0 dX7_layLevels_3 rfl rfl ?_
  refine am_getI (pc := 4) (k := 2) cl7 sh30 (by decide) (by decide) f7_74 rfl dX7_layLevels_4 ?_
  refine am_icmp_ge (pc := 7) 32 dX7_layLevels_7 (by decide) (fun c => ?_) (fun c => ?_)
  · replace h := h.1 c
    refine am_iconst (pc := 32) (v := 0) dX7_layLevels_32 rfl ?_
    refine am_istoreE_n (pc := 33) 1 (loc' := [.ref 30, .int 0, .null, .null]) dX7_layLevels_33 rfl (by decide) rfl rfl ?_
    exact h
  · replace h := h.2 c
    refine am_aload_n (pc := 10) 0 dX7_layLevels_10 rfl rfl ?_
    refine am_getR (pc := 11) (k := 22) cl7 sh30 (by decide) (by decide) f7_59 rfl dX7_layLevels_11 ?_
    refine am_iload_n (pc := 14) 1 dX7_layLevels_14 rfl rfl ?_
    refine am_bipush (pc := 15) (v := -9) dX7_layLevels_15 rfl ?_
    refine am_iast (pc := 17) sh43 (by decide) h.1 dX7_layLevels_17 ?_
    replace h := h.2
    refine am_aload_n (pc := 18) 0 dX7_layLevels_18 rfl rfl ?_
    refine am_getR (pc := 19) (k := 23) cl7 sh30 (by decide) (by decide) f7_62 rfl dX7_layLevels_19 ?_
    refine am_iload_n (pc := 22) 1 dX7_layLevels_22 rfl rfl ?_
    refine am_bipush (pc := 23) (v := -9) dX7_layLevels_23 rfl ?_
    refine am_iast (pc := 25) sh44 (by decide) h.1 dX7_layLevels_25 ?_
    replace h := h.2
    refine am_iincE (pc := 26) (v := 1) (loc' := [.ref 30, .int (v1 + 1), .null, .null]) dX7_layLevels_26 rfl rfl (by decide) rfl rfl ?_
    refine am_goto (pc := 29) 2 dX7_layLevels_29 (by decide) ?_
    exact h
set_option maxRecDepth 100000 in
set_option maxHeartbeats 4000000 in
theorem sg7_layLevels_34 {D : Nat} {mem : am_Mem} {Q : Option Value → am_Mem → Prop} {v1 : Int32} (h : (6 ≤ v1 → Q none (am_set mem 30 12 1)) ∧ (¬ 6 ≤ v1 → am_J m7_layLevels (D + 1) 50 [.ref 30, .int v1, .int 99, .null] [] (am_set mem 30 12 (v1 + (1 : Int32))) Q)) : am_J m7_layLevels (D + 1) 34 [.ref 30, .int v1, .null, .null] [] mem Q := by
  refine am_iload_n (pc := 34) 1 dX7_layLevels_34 rfl rfl ?_
  refine am_bipush (pc := 35) (v := 6) dX7_layLevels_35 rfl ?_
  refine am_icmp_ge (pc := 37) 109 dX7_layLevels_37 (by decide) (fun c => ?_) (fun c => ?_)
  · replace h := h.1 c
    refine am_aload_n (pc := 109) 0 dX7_layLevels_109 rfl rfl ?_
    refine am_iconst (pc := 110) (v := 1) dX7_layLevels_110 rfl ?_
    refine am_putI (pc := 111) (k := 12) cl7 sh30 (by decide) (by decide) f7_41 rfl rfl rfl dX7_layLevels_111 ?_
    exact am_return rfl dX7_layLevels_114 h
  · replace h := h.2 c
    refine am_aload_n (pc := 40) 0 dX7_layLevels_40 rfl rfl ?_
    refine am_iload_n (pc := 41) 1 dX7_layLevels_41 rfl rfl ?_
    refine am_iconst (pc := 42) (v := 1) dX7_layLevels_42 rfl ?_
    refine am_iadd (pc := 43) dX7_layLevels_43 ?_
    refine am_putI (pc := 44) (k := 12) cl7 sh30 (by decide) (by decide) f7_41 rfl rfl rfl dX7_layLevels_44 ?_
    refine am_bipush (pc := 47) (v := 99) dX7_layLevels_47 rfl ?_
    refine am_istoreE_n (pc := 49) 2 (loc' := [.ref 30, .int v1, .int 99, .null]) dX7_layLevels_49 rfl (by decide) rfl rfl ?_
    exact h
set_option maxRecDepth 100000 in
set_option maxHeartbeats 4000000 in
theorem sg7_layLevels_50 {D : Nat} {mem : am_Mem} {Q : Option Value → am_Mem → Prop} {v1 : Int32} {v2 : Int32} (h : (v2 ≤ 0 → am_J m7_layLevels (D + 1) 34 [.ref 30, .int (v1 + 1), .null, .null] [] mem Q) ∧ (¬ v2 ≤ 0 → am_J m7_layLevels (D + 1) 56 [.ref 30, .int v1, .int v2, .int 0] [] mem Q)) : am_J m7_layLevels (D + 1) 50 [.ref 30, .int v1, .int v2, .null] [] mem Q := by
  refine am_iload_n (pc := 50) 2 dX7_layLevels_50 rfl rfl ?_
  refine am_if_le (pc := 51) 103 dX7_layLevels_51 (by decide) (fun c => ?_) (fun c => ?_)
  · replace h := h.1 c
    refine am_iincE (pc := 103) (v := 1) (loc' := [.ref 30, .int (v1 + 1), .int v2, .null]) dX7_layLevels_103 rfl rfl (by decide) rfl rfl ?_
    refine am_goto (pc := 106) 34 dX7_layLevels_106 (by decide) ?_
    exact am_drop [2] h
  · replace h := h.2 c
    refine am_iconst (pc := 54) (v := 0) dX7_layLevels_54 rfl ?_
    refine am_istoreE_n (pc := 55) 3 (loc' := [.ref 30, .int v1, .int v2, .int 0]) dX7_layLevels_55 rfl (by decide) rfl rfl ?_
    exact h
set_option maxRecDepth 100000 in
set_option maxHeartbeats 4000000 in
theorem sg7_layLevels_56 {D : Nat} {mem : am_Mem} {Q : Option Value → am_Mem → Prop} {v1 : Int32} {v2 : Int32} {v3 : Int32} (h : ((mem 30 2) ≤ v3 → am_J m7_layLevels (D + 1) 50 [.ref 30, .int v1, .int (v2 + (-1)), .null] [] mem Q) ∧ (¬ (mem 30 2) ≤ v3 → vp_in v3 8 ∧ ((¬ (mem 35 v3.toNatClampNeg) = v2 → am_J m7_layLevels (D + 1) 91 [.ref 30, .int v1, .int v2, .int v3] [] mem Q) ∧ ((mem 35 v3.toNatClampNeg) = v2 → vp_in v3 8 ∧ ((¬ (mem 43 v3.toNatClampNeg) = (-9) → am_J m7_layLevels (D + 1) 91 [.ref 30, .int v1, .int v2, .int v3] [] mem Q) ∧ ((mem 43 v3.toNatClampNeg) = (-9) → am_Cv m7_show D [.ref 30, .int v3, .int v1] mem (fun mem_1 => am_J m7_layLevels (D + 1) 91 [.ref 30, .int v1, .int v2, .int v3] [] mem_1 Q))))))) : am_J m7_layLevels (D + 1) 56 [.ref 30, .int v1, .int v2, .int v3] [] mem Q := by
  refine am_iload_n (pc := 56) 3 dX7_layLevels_56 rfl rfl ?_
  refine am_aload_n (pc := 57) 0 dX7_layLevels_57 rfl rfl ?_
  refine am_getI (pc := 58) (k := 2) cl7 sh30 (by decide) (by decide) f7_74 rfl dX7_layLevels_58 ?_
  refine am_icmp_ge (pc := 61) 97 dX7_layLevels_61 (by decide) (fun c => ?_) (fun c => ?_)
  · replace h := h.1 c
    refine am_iincE (pc := 97) (v := -1) (loc' := [.ref 30, .int v1, .int (v2 + (-1)), .int v3]) dX7_layLevels_97 rfl rfl (by decide) rfl rfl ?_
    refine am_goto (pc := 100) 50 dX7_layLevels_100 (by decide) ?_
    exact am_drop [3] h
  · replace h := h.2 c
    refine am_aload_n (pc := 64) 0 dX7_layLevels_64 rfl rfl ?_
    refine am_getR (pc := 65) (k := 7) cl7 sh30 (by decide) (by decide) f7_29 rfl dX7_layLevels_65 ?_
    refine am_iload_n (pc := 68) 3 dX7_layLevels_68 rfl rfl ?_
    refine am_iald (pc := 69) sh35 (by decide) h.1 dX7_layLevels_69 ?_
    replace h := h.2
    refine am_iload_n (pc := 70) 2 dX7_layLevels_70 rfl rfl ?_
    refine am_icmp_ne (pc := 71) 91 dX7_layLevels_71 (by decide) (fun c => ?_) (fun c => ?_)
    · replace h := h.1 c
      exact h
    · replace h := h.2 c
      refine am_aload_n (pc := 74) 0 dX7_layLevels_74 rfl rfl ?_
      refine am_getR (pc := 75) (k := 22) cl7 sh30 (by decide) (by decide) f7_59 rfl dX7_layLevels_75 ?_
      refine am_iload_n (pc := 78) 3 dX7_layLevels_78 rfl rfl ?_
      refine am_iald (pc := 79) sh43 (by decide) h.1 dX7_layLevels_79 ?_
      replace h := h.2
      refine am_bipush (pc := 80) (v := -9) dX7_layLevels_80 rfl ?_
      refine am_icmp_ne (pc := 82) 91 dX7_layLevels_82 (by decide) (fun c => ?_) (fun c => ?_)
      · replace h := h.1 c
        exact h
      · replace h := h.2 c
        refine am_aload_n (pc := 85) 0 dX7_layLevels_85 rfl rfl ?_
        refine am_iload_n (pc := 86) 3 dX7_layLevels_86 rfl rfl ?_
        refine am_iload_n (pc := 87) 1 dX7_layLevels_87 rfl rfl ?_
        refine am_callV (pc := 88) m7_show D 2 [.int v3, .int v1] (rest := []) ok7_show (by omega) rfl rfl sh30 (by decide) rfl l7_166 in7_show se7_show (Nat.le_of_ble_eq_true rfl) dX7_layLevels_88 ?_
        refine am_Cv.use h (fun mem_1 h => ?_)
        show am_J m7_layLevels (D + 1) 91 [.ref 30, .int v1, .int v2, .int v3] [] mem_1 Q
        exact h
set_option maxRecDepth 100000 in
set_option maxHeartbeats 4000000 in
theorem sg7_layLevels_91 {D : Nat} {mem : am_Mem} {Q : Option Value → am_Mem → Prop} {v1 : Int32} {v2 : Int32} {v3 : Int32} (h : am_J m7_layLevels (D + 1) 56 [.ref 30, .int v1, .int v2, .int (v3 + 1)] [] mem Q) : am_J m7_layLevels (D + 1) 91 [.ref 30, .int v1, .int v2, .int v3] [] mem Q := by
  refine am_iincE (pc := 91) (v := 1) (loc' := [.ref 30, .int v1, .int v2, .int (v3 + 1)]) dX7_layLevels_91 rfl rfl (by decide) rfl rfl ?_
  refine am_goto (pc := 94) 56 dX7_layLevels_94 (by decide) ?_
  exact h
set_option maxRecDepth 100000 in
set_option maxHeartbeats 4000000 in
theorem sg7_shown_0 {D : Nat} {mem : am_Mem} {Q : Option Value → am_Mem → Prop} {v1 : Int32} (h : am_Ci m7_in D [.long ((v1).toInt64), .long 0, .long 5] mem (fun r_1 mem_1 => (¬ r_1 = 0 → am_Cv m7_layLevels D [.ref 30] mem_1 (fun mem_2 => am_J m7_shown (D + 1) 23 [.ref 30, .int v1, .int 0, .int 0] [] mem_2 Q)) ∧ (r_1 = 0 → Q (some (.int (-2))) mem_1))) : am_J m7_shown (D + 1) 0 [.ref 30, .int v1, .null, .null] [] mem Q := by
  refine am_iload_n (pc := 0) 1 dX7_shown_0 rfl rfl ?_
  refine am_i2l (pc := 1) dX7_shown_1 ?_
  refine am_lconst (pc := 2) (v := 0) dX7_shown_2 rfl ?_
  refine am_ldc2 (pc := 3) k7_170 dX7_shown_3 ?_
  refine am_callS (pc := 6) m7_in D 3 [.long ((v1).toInt64), .long 0, .long 5] (rest := []) ok7_in (by omega) rfl rfl l7_77 st7_in (Nat.le_of_ble_eq_true rfl) dX7_shown_6 ?_
  refine am_Ci.use h (fun r_1 mem_1 h => ?_)
  show am_J m7_shown (D + 1) 9 [.ref 30, .int v1, .null, .null] [.int r_1] mem_1 Q
  refine am_if_ne (pc := 9) 15 dX7_shown_9 (by decide) (fun c => ?_) (fun c => ?_)
  · replace h := h.1 c
    refine am_aload_n (pc := 15) 0 dX7_shown_15 rfl rfl ?_
    refine am_callV (pc := 16) m7_layLevels D 0 [] (rest := []) ok7_layLevels (by omega) rfl rfl sh30 (by decide) rfl l7_172 in7_layLevels se7_layLevels (Nat.le_of_ble_eq_true rfl) dX7_shown_16 ?_
    refine am_Cv.use h (fun mem_2 h => ?_)
    show am_J m7_shown (D + 1) 19 [.ref 30, .int v1, .null, .null] [] mem_2 Q
    refine am_iconst (pc := 19) (v := 0) dX7_shown_19 rfl ?_
    refine am_istoreE_n (pc := 20) 2 (loc' := [.ref 30, .int v1, .int 0, .null]) dX7_shown_20 rfl (by decide) rfl rfl ?_
    refine am_iconst (pc := 21) (v := 0) dX7_shown_21 rfl ?_
    refine am_istoreE_n (pc := 22) 3 (loc' := [.ref 30, .int v1, .int 0, .int 0]) dX7_shown_22 rfl (by decide) rfl rfl ?_
    exact h
  · replace h := h.2 c
    refine am_bipush (pc := 12) (v := -2) dX7_shown_12 rfl ?_
    exact am_ireturn rfl dX7_shown_14 h
set_option maxRecDepth 100000 in
set_option maxHeartbeats 4000000 in
theorem sg7_shown_23 {D : Nat} {mem : am_Mem} {Q : Option Value → am_Mem → Prop} {v1 : Int32} {v2 : Int32} {v3 : Int32} (h : ((mem 30 2) ≤ v3 → Q (some (.int v2)) mem) ∧ (¬ (mem 30 2) ≤ v3 → vp_in v3 8 ∧ (((mem 43 v3.toNatClampNeg) = (-9) → am_J m7_shown (D + 1) 57 [.ref 30, .int v1, .null, .int v3] [.int v2] mem Q) ∧ (¬ (mem 43 v3.toNatClampNeg) = (-9) → vp_in v3 8 ∧ ((v1 < (mem 43 v3.toNatClampNeg) → am_J m7_shown (D + 1) 57 [.ref 30, .int v1, .null, .int v3] [.int v2] mem Q) ∧ (¬ v1 < (mem 43 v3.toNatClampNeg) → am_J m7_shown (D + 1) 58 [.ref 30, .int v1, .null, .int v3] [.int 1, .int v2] mem Q)))))) : am_J m7_shown (D + 1) 23 [.ref 30, .int v1, .int v2, .int v3] [] mem Q := by
  refine am_iload_n (pc := 23) 3 dX7_shown_23 rfl rfl ?_
  refine am_aload_n (pc := 24) 0 dX7_shown_24 rfl rfl ?_
  refine am_getI (pc := 25) (k := 2) cl7 sh30 (by decide) (by decide) f7_74 rfl dX7_shown_25 ?_
  refine am_icmp_ge (pc := 28) 66 dX7_shown_28 (by decide) (fun c => ?_) (fun c => ?_)
  · replace h := h.1 c
    refine am_iload_n (pc := 66) 2 dX7_shown_66 rfl rfl ?_
    exact am_ireturn rfl dX7_shown_67 h
  · replace h := h.2 c
    refine am_iload_n (pc := 31) 2 dX7_shown_31 rfl rfl ?_
    refine am_aload_n (pc := 32) 0 dX7_shown_32 rfl rfl ?_
    refine am_getR (pc := 33) (k := 22) cl7 sh30 (by decide) (by decide) f7_59 rfl dX7_shown_33 ?_
    refine am_iload_n (pc := 36) 3 dX7_shown_36 rfl rfl ?_
    refine am_iald (pc := 37) sh43 (by decide) h.1 dX7_shown_37 ?_
    replace h := h.2
    refine am_bipush (pc := 38) (v := -9) dX7_shown_38 rfl ?_
    refine am_icmp_eq (pc := 40) 57 dX7_shown_40 (by decide) (fun c => ?_) (fun c => ?_)
    · replace h := h.1 c
      exact am_drop [2] h
    · replace h := h.2 c
      refine am_aload_n (pc := 43) 0 dX7_shown_43 rfl rfl ?_
      refine am_getR (pc := 44) (k := 22) cl7 sh30 (by decide) (by decide) f7_59 rfl dX7_shown_44 ?_
      refine am_iload_n (pc := 47) 3 dX7_shown_47 rfl rfl ?_
      refine am_iald (pc := 48) sh43 (by decide) h.1 dX7_shown_48 ?_
      replace h := h.2
      refine am_iload_n (pc := 49) 1 dX7_shown_49 rfl rfl ?_
      refine am_icmp_gt (pc := 50) 57 dX7_shown_50 (by decide) (fun c => ?_) (fun c => ?_)
      · replace h := h.1 c
        exact am_drop [2] h
      · replace h := h.2 c
        refine am_iconst (pc := 53) (v := 1) dX7_shown_53 rfl ?_
        refine am_goto (pc := 54) 58 dX7_shown_54 (by decide) ?_
        exact am_drop [2] h
set_option maxRecDepth 100000 in
set_option maxHeartbeats 4000000 in
theorem sg7_shown_57 {D : Nat} {mem : am_Mem} {Q : Option Value → am_Mem → Prop} {v1 : Int32} {v3 : Int32} {s0 : Int32} (h : am_J m7_shown (D + 1) 58 [.ref 30, .int v1, .null, .int v3] [.int 0, .int s0] mem Q) : am_J m7_shown (D + 1) 57 [.ref 30, .int v1, .null, .int v3] [.int s0] mem Q := by
  refine am_iconst (pc := 57) (v := 0) dX7_shown_57 rfl ?_
  exact h
set_option maxRecDepth 100000 in
set_option maxHeartbeats 4000000 in
theorem sg7_shown_58 {D : Nat} {mem : am_Mem} {Q : Option Value → am_Mem → Prop} {v1 : Int32} {v3 : Int32} {s0 : Int32} {s1 : Int32} (h : am_J m7_shown (D + 1) 23 [.ref 30, .int v1, .int (s1 + s0), .int (v3 + 1)] [] mem Q) : am_J m7_shown (D + 1) 58 [.ref 30, .int v1, .null, .int v3] [.int s0, .int s1] mem Q := by
  refine am_iadd (pc := 58) dX7_shown_58 ?_
  refine am_istoreE_n (pc := 59) 2 (loc' := [.ref 30, .int v1, .int (s1 + s0), .int v3]) dX7_shown_59 rfl (by decide) rfl rfl ?_
  refine am_iincE (pc := 60) (v := 1) (loc' := [.ref 30, .int v1, .int (s1 + s0), .int (v3 + 1)]) dX7_shown_60 rfl rfl (by decide) rfl rfl ?_
  refine am_goto (pc := 63) 23 dX7_shown_63 (by decide) ?_
  exact h
set_option maxRecDepth 100000 in
set_option maxHeartbeats 4000000 in
theorem sg7_comes_0 {D : Nat} {mem : am_Mem} {Q : Option Value → am_Mem → Prop} {v1 : Int32} (h : am_Ci m7_isSite D [.ref 30, .int v1] mem (fun r_1 mem_1 => (¬ r_1 = 0 → am_Cv m7_layLevels D [.ref 30] mem_1 (fun mem_2 => vp_in v1 8 ∧ (Q (some (.int (mem_2 43 v1.toNatClampNeg))) mem_2))) ∧ (r_1 = 0 → Q (some (.int (-1))) mem_1))) : am_J m7_comes (D + 1) 0 [.ref 30, .int v1] [] mem Q := by
  refine am_aload_n (pc := 0) 0 dX7_comes_0 rfl rfl ?_
  refine am_iload_n (pc := 1) 1 dX7_comes_1 rfl rfl ?_
  refine am_callV (pc := 2) m7_isSite D 1 [.int v1] (rest := []) ok7_isSite (by omega) rfl rfl sh30 (by decide) rfl l7_93 in7_isSite se7_isSite (Nat.le_of_ble_eq_true rfl) dX7_comes_2 ?_
  refine am_Ci.use h (fun r_1 mem_1 h => ?_)
  show am_J m7_comes (D + 1) 5 [.ref 30, .int v1] [.int r_1] mem_1 Q
  refine am_if_ne (pc := 5) 10 dX7_comes_5 (by decide) (fun c => ?_) (fun c => ?_)
  · replace h := h.1 c
    refine am_aload_n (pc := 10) 0 dX7_comes_10 rfl rfl ?_
    refine am_callV (pc := 11) m7_layLevels D 0 [] (rest := []) ok7_layLevels (by omega) rfl rfl sh30 (by decide) rfl l7_172 in7_layLevels se7_layLevels (Nat.le_of_ble_eq_true rfl) dX7_comes_11 ?_
    refine am_Cv.use h (fun mem_2 h => ?_)
    show am_J m7_comes (D + 1) 14 [.ref 30, .int v1] [] mem_2 Q
    refine am_aload_n (pc := 14) 0 dX7_comes_14 rfl rfl ?_
    refine am_getR (pc := 15) (k := 22) cl7 sh30 (by decide) (by decide) f7_59 rfl dX7_comes_15 ?_
    refine am_iload_n (pc := 18) 1 dX7_comes_18 rfl rfl ?_
    refine am_iald (pc := 19) sh43 (by decide) h.1 dX7_comes_19 ?_
    replace h := h.2
    exact am_ireturn rfl dX7_comes_20 h
  · replace h := h.2 c
    refine am_iconst (pc := 8) (v := -1) dX7_comes_8 rfl ?_
    exact am_ireturn rfl dX7_comes_9 h
set_option maxRecDepth 100000 in
set_option maxHeartbeats 4000000 in
theorem sg7_shownAt_0 {D : Nat} {mem : am_Mem} {Q : Option Value → am_Mem → Prop} {v1 : Int32} (h : am_Ci m7_isSite D [.ref 30, .int v1] mem (fun r_1 mem_1 => (¬ r_1 = 0 → am_Cv m7_layLevels D [.ref 30] mem_1 (fun mem_2 => vp_in v1 8 ∧ (Q (some (.int (mem_2 44 v1.toNatClampNeg))) mem_2))) ∧ (r_1 = 0 → Q (some (.int (-1))) mem_1))) : am_J m7_shownAt (D + 1) 0 [.ref 30, .int v1] [] mem Q := by
  refine am_aload_n (pc := 0) 0 dX7_shownAt_0 rfl rfl ?_
  refine am_iload_n (pc := 1) 1 dX7_shownAt_1 rfl rfl ?_
  refine am_callV (pc := 2) m7_isSite D 1 [.int v1] (rest := []) ok7_isSite (by omega) rfl rfl sh30 (by decide) rfl l7_93 in7_isSite se7_isSite (Nat.le_of_ble_eq_true rfl) dX7_shownAt_2 ?_
  refine am_Ci.use h (fun r_1 mem_1 h => ?_)
  show am_J m7_shownAt (D + 1) 5 [.ref 30, .int v1] [.int r_1] mem_1 Q
  refine am_if_ne (pc := 5) 10 dX7_shownAt_5 (by decide) (fun c => ?_) (fun c => ?_)
  · replace h := h.1 c
    refine am_aload_n (pc := 10) 0 dX7_shownAt_10 rfl rfl ?_
    refine am_callV (pc := 11) m7_layLevels D 0 [] (rest := []) ok7_layLevels (by omega) rfl rfl sh30 (by decide) rfl l7_172 in7_layLevels se7_layLevels (Nat.le_of_ble_eq_true rfl) dX7_shownAt_11 ?_
    refine am_Cv.use h (fun mem_2 h => ?_)
    show am_J m7_shownAt (D + 1) 14 [.ref 30, .int v1] [] mem_2 Q
    refine am_aload_n (pc := 14) 0 dX7_shownAt_14 rfl rfl ?_
    refine am_getR (pc := 15) (k := 23) cl7 sh30 (by decide) (by decide) f7_62 rfl dX7_shownAt_15 ?_
    refine am_iload_n (pc := 18) 1 dX7_shownAt_18 rfl rfl ?_
    refine am_iald (pc := 19) sh44 (by decide) h.1 dX7_shownAt_19 ?_
    replace h := h.2
    exact am_ireturn rfl dX7_shownAt_20 h
  · replace h := h.2 c
    refine am_iconst (pc := 8) (v := -1) dX7_shownAt_8 rfl ?_
    exact am_ireturn rfl dX7_shownAt_9 h
set_option maxRecDepth 100000 in
set_option maxHeartbeats 4000000 in
theorem sg7_isBetween_0 {D : Nat} {mem : am_Mem} {Q : Option Value → am_Mem → Prop} {v0 : Int32} {v1 : Int32} {v2 : Int32} (h : (v2 ≤ v1 → am_Ci m7_in D [.long ((v0).toInt64), .long ((v2).toInt64), .long ((v1).toInt64)] mem (fun r_1 mem_1 => (r_1 = 0 ∨ r_1 = 1) ∧ Q (some (.int r_1)) mem_1)) ∧ (¬ v2 ≤ v1 → am_Ci m7_in D [.long ((v0).toInt64), .long ((v1).toInt64), .long ((v2).toInt64)] mem (fun r_2 mem_2 => (r_2 = 0 ∨ r_2 = 1) ∧ Q (some (.int r_2)) mem_2))) : am_J m7_isBetween (D + 1) 0 [.int v0, .int v1, .int v2] [] mem Q := by
  refine am_iload_n (pc := 0) 1 dX7_isBetween_0 rfl rfl ?_
  refine am_iload_n (pc := 1) 2 dX7_isBetween_1 rfl rfl ?_
  refine am_icmp_ge (pc := 2) 17 dX7_isBetween_2 (by decide) (fun c => ?_) (fun c => ?_)
  · replace h := h.1 c
    refine am_iload_n (pc := 17) 0 dX7_isBetween_17 rfl rfl ?_
    refine am_i2l (pc := 18) dX7_isBetween_18 ?_
    refine am_iload_n (pc := 19) 2 dX7_isBetween_19 rfl rfl ?_
    refine am_i2l (pc := 20) dX7_isBetween_20 ?_
    refine am_iload_n (pc := 21) 1 dX7_isBetween_21 rfl rfl ?_
    refine am_i2l (pc := 22) dX7_isBetween_22 ?_
    refine am_callS (pc := 23) m7_in D 3 [.long ((v0).toInt64), .long ((v2).toInt64), .long ((v1).toInt64)] (rest := []) ok7_in (by omega) rfl rfl l7_77 st7_in (Nat.le_of_ble_eq_true rfl) dX7_isBetween_23 ?_
    refine am_Ci.use h (fun r_1 mem_1 h => ?_)
    show am_J m7_isBetween (D + 1) 26 [.int v0, .int v1, .int v2] [.int r_1] mem_1 Q
    exact am_zreturn rfl h.1 dX7_isBetween_26 h.2
  · replace h := h.2 c
    refine am_iload_n (pc := 5) 0 dX7_isBetween_5 rfl rfl ?_
    refine am_i2l (pc := 6) dX7_isBetween_6 ?_
    refine am_iload_n (pc := 7) 1 dX7_isBetween_7 rfl rfl ?_
    refine am_i2l (pc := 8) dX7_isBetween_8 ?_
    refine am_iload_n (pc := 9) 2 dX7_isBetween_9 rfl rfl ?_
    refine am_i2l (pc := 10) dX7_isBetween_10 ?_
    refine am_callS (pc := 11) m7_in D 3 [.long ((v0).toInt64), .long ((v1).toInt64), .long ((v2).toInt64)] (rest := []) ok7_in (by omega) rfl rfl l7_77 st7_in (Nat.le_of_ble_eq_true rfl) dX7_isBetween_11 ?_
    refine am_Ci.use h (fun r_2 mem_2 h => ?_)
    show am_J m7_isBetween (D + 1) 14 [.int v0, .int v1, .int v2] [.int r_2] mem_2 Q
    refine am_goto (pc := 14) 26 dX7_isBetween_14 (by decide) ?_
    exact am_zreturn rfl h.1 dX7_isBetween_26 h.2
set_option maxRecDepth 100000 in
set_option maxHeartbeats 4000000 in
theorem sg7_lineCrosses_0 {D : Nat} {mem : am_Mem} {Q : Option Value → am_Mem → Prop} {v1 : Int32} {v2 : Int32} {v3 : Int32} {v4 : Int32} (h : (¬ v2 = v4 → vp_in v1 8 ∧ (vp_in v3 8 ∧ (((mem 31 v1.toNatClampNeg) < (mem 31 v3.toNatClampNeg) → am_J m7_lineCrosses (D + 1) 42 [.ref 30, .int v1, .int v2, .int v3, .int v4, .null, .null, .null] [] mem Q) ∧ (¬ (mem 31 v1.toNatClampNeg) < (mem 31 v3.toNatClampNeg) → vp_in v1 8 ∧ (am_Ci m7_isBetween D [.int v4, .int (mem 32 v1.toNatClampNeg), .int v2] mem (fun r_1 mem_1 => (r_1 = 0 → am_J m7_lineCrosses (D + 1) 42 [.ref 30, .int v1, .int v2, .int v3, .int v4, .null, .null, .null] [] mem_1 Q) ∧ (¬ r_1 = 0 → am_J m7_lineCrosses (D + 1) 43 [.ref 30, .int v1, .int v2, .int v3, .int v4, .null, .null, .null] [.int 1] mem_1 Q))))))) ∧ (v2 = v4 → Q (some (.int 1)) mem)) : am_J m7_lineCrosses (D + 1) 0 [.ref 30, .int v1, .int v2, .int v3, .int v4, .null, .null, .null] [] mem Q := by
  refine am_iload_n (pc := 0) 2 dX7_lineCrosses_0 rfl rfl ?_
  refine am_iload (pc := 1) dX7_lineCrosses_1 rfl ?_
  refine am_icmp_ne (pc := 3) 8 dX7_lineCrosses_3 (by decide) (fun c => ?_) (fun c => ?_)
  · replace h := h.1 c
    refine am_aload_n (pc := 8) 0 dX7_lineCrosses_8 rfl rfl ?_
    refine am_getR (pc := 9) (k := 3) cl7 sh30 (by decide) (by decide) f7_16 rfl dX7_lineCrosses_9 ?_
    refine am_iload_n (pc := 12) 1 dX7_lineCrosses_12 rfl rfl ?_
    refine am_iald (pc := 13) sh31 (by decide) h.1 dX7_lineCrosses_13 ?_
    replace h := h.2
    refine am_aload_n (pc := 14) 0 dX7_lineCrosses_14 rfl rfl ?_
    refine am_getR (pc := 15) (k := 3) cl7 sh30 (by decide) (by decide) f7_16 rfl dX7_lineCrosses_15 ?_
    refine am_iload_n (pc := 18) 3 dX7_lineCrosses_18 rfl rfl ?_
    refine am_iald (pc := 19) sh31 (by decide) h.1 dX7_lineCrosses_19 ?_
    replace h := h.2
    refine am_icmp_lt (pc := 20) 42 dX7_lineCrosses_20 (by decide) (fun c => ?_) (fun c => ?_)
    · replace h := h.1 c
      exact h
    · replace h := h.2 c
      refine am_iload (pc := 23) dX7_lineCrosses_23 rfl ?_
      refine am_aload_n (pc := 25) 0 dX7_lineCrosses_25 rfl rfl ?_
      refine am_getR (pc := 26) (k := 4) cl7 sh30 (by decide) (by decide) f7_20 rfl dX7_lineCrosses_26 ?_
      refine am_iload_n (pc := 29) 1 dX7_lineCrosses_29 rfl rfl ?_
      refine am_iald (pc := 30) sh32 (by decide) h.1 dX7_lineCrosses_30 ?_
      replace h := h.2
      refine am_iload_n (pc := 31) 2 dX7_lineCrosses_31 rfl rfl ?_
      refine am_callS (pc := 32) m7_isBetween D 3 [.int v4, .int (mem 32 v1.toNatClampNeg), .int v2] (rest := []) ok7_isBetween (by omega) rfl rfl l7_175 st7_isBetween (Nat.le_of_ble_eq_true rfl) dX7_lineCrosses_32 ?_
      refine am_Ci.use h (fun r_1 mem_1 h => ?_)
      show am_J m7_lineCrosses (D + 1) 35 [.ref 30, .int v1, .int v2, .int v3, .int v4, .null, .null, .null] [.int r_1] mem_1 Q
      refine am_if_eq (pc := 35) 42 dX7_lineCrosses_35 (by decide) (fun c => ?_) (fun c => ?_)
      · replace h := h.1 c
        exact h
      · replace h := h.2 c
        refine am_iconst (pc := 38) (v := 1) dX7_lineCrosses_38 rfl ?_
        refine am_goto (pc := 39) 43 dX7_lineCrosses_39 (by decide) ?_
        exact h
  · replace h := h.2 c
    refine am_iconst (pc := 6) (v := 1) dX7_lineCrosses_6 rfl ?_
    exact am_zreturn rfl (by decide) dX7_lineCrosses_7 h
set_option maxRecDepth 100000 in
set_option maxHeartbeats 4000000 in
theorem sg7_lineCrosses_42 {D : Nat} {mem : am_Mem} {Q : Option Value → am_Mem → Prop} {v1 : Int32} {v2 : Int32} {v3 : Int32} {v4 : Int32} (h : am_J m7_lineCrosses (D + 1) 43 [.ref 30, .int v1, .int v2, .int v3, .int v4, .null, .null, .null] [.int 0] mem Q) : am_J m7_lineCrosses (D + 1) 42 [.ref 30, .int v1, .int v2, .int v3, .int v4, .null, .null, .null] [] mem Q := by
  refine am_iconst (pc := 42) (v := 0) dX7_lineCrosses_42 rfl ?_
  exact h
set_option maxRecDepth 100000 in
set_option maxHeartbeats 4000000 in
theorem sg7_lineCrosses_43 {D : Nat} {mem : am_Mem} {Q : Option Value → am_Mem → Prop} {v1 : Int32} {v2 : Int32} {v3 : Int32} {v4 : Int32} {s0 : Int32} (h : vp_in v3 8 ∧ (vp_in v1 8 ∧ (((mem 31 v3.toNatClampNeg) < (mem 31 v1.toNatClampNeg) → am_J m7_lineCrosses (D + 1) 79 [.ref 30, .int v1, .int v2, .int v3, .int v4, .int s0, .null, .null] [] mem Q) ∧ (¬ (mem 31 v3.toNatClampNeg) < (mem 31 v1.toNatClampNeg) → vp_in v3 8 ∧ (am_Ci m7_isBetween D [.int v2, .int (mem 32 v3.toNatClampNeg), .int v4] mem (fun r_1 mem_1 => (r_1 = 0 → am_J m7_lineCrosses (D + 1) 79 [.ref 30, .int v1, .int v2, .int v3, .int v4, .int s0, .null, .null] [] mem_1 Q) ∧ (¬ r_1 = 0 → am_J m7_lineCrosses (D + 1) 80 [.ref 30, .int v1, .int v2, .int v3, .int v4, .int s0, .null, .null] [.int 1] mem_1 Q))))))) : am_J m7_lineCrosses (D + 1) 43 [.ref 30, .int v1, .int v2, .int v3, .int v4, .null, .null, .null] [.int s0] mem Q := by
  refine am_istoreE (pc := 43) (loc' := [.ref 30, .int v1, .int v2, .int v3, .int v4, .int s0, .null, .null]) dX7_lineCrosses_43 (by decide) rfl rfl ?_
  refine am_aload_n (pc := 45) 0 dX7_lineCrosses_45 rfl rfl ?_
  refine am_getR (pc := 46) (k := 3) cl7 sh30 (by decide) (by decide) f7_16 rfl dX7_lineCrosses_46 ?_
  refine am_iload_n (pc := 49) 3 dX7_lineCrosses_49 rfl rfl ?_
  refine am_iald (pc := 50) sh31 (by decide) h.1 dX7_lineCrosses_50 ?_
  replace h := h.2
  refine am_aload_n (pc := 51) 0 dX7_lineCrosses_51 rfl rfl ?_
  refine am_getR (pc := 52) (k := 3) cl7 sh30 (by decide) (by decide) f7_16 rfl dX7_lineCrosses_52 ?_
  refine am_iload_n (pc := 55) 1 dX7_lineCrosses_55 rfl rfl ?_
  refine am_iald (pc := 56) sh31 (by decide) h.1 dX7_lineCrosses_56 ?_
  replace h := h.2
  refine am_icmp_lt (pc := 57) 79 dX7_lineCrosses_57 (by decide) (fun c => ?_) (fun c => ?_)
  · replace h := h.1 c
    exact h
  · replace h := h.2 c
    refine am_iload_n (pc := 60) 2 dX7_lineCrosses_60 rfl rfl ?_
    refine am_aload_n (pc := 61) 0 dX7_lineCrosses_61 rfl rfl ?_
    refine am_getR (pc := 62) (k := 4) cl7 sh30 (by decide) (by decide) f7_20 rfl dX7_lineCrosses_62 ?_
    refine am_iload_n (pc := 65) 3 dX7_lineCrosses_65 rfl rfl ?_
    refine am_iald (pc := 66) sh32 (by decide) h.1 dX7_lineCrosses_66 ?_
    replace h := h.2
    refine am_iload (pc := 67) dX7_lineCrosses_67 rfl ?_
    refine am_callS (pc := 69) m7_isBetween D 3 [.int v2, .int (mem 32 v3.toNatClampNeg), .int v4] (rest := []) ok7_isBetween (by omega) rfl rfl l7_175 st7_isBetween (Nat.le_of_ble_eq_true rfl) dX7_lineCrosses_69 ?_
    refine am_Ci.use h (fun r_1 mem_1 h => ?_)
    show am_J m7_lineCrosses (D + 1) 72 [.ref 30, .int v1, .int v2, .int v3, .int v4, .int s0, .null, .null] [.int r_1] mem_1 Q
    refine am_if_eq (pc := 72) 79 dX7_lineCrosses_72 (by decide) (fun c => ?_) (fun c => ?_)
    · replace h := h.1 c
      exact h
    · replace h := h.2 c
      refine am_iconst (pc := 75) (v := 1) dX7_lineCrosses_75 rfl ?_
      refine am_goto (pc := 76) 80 dX7_lineCrosses_76 (by decide) ?_
      exact h
set_option maxRecDepth 100000 in
set_option maxHeartbeats 4000000 in
theorem sg7_lineCrosses_79 {D : Nat} {mem : am_Mem} {Q : Option Value → am_Mem → Prop} {v1 : Int32} {v2 : Int32} {v3 : Int32} {v4 : Int32} {v5 : Int32} (h : am_J m7_lineCrosses (D + 1) 80 [.ref 30, .int v1, .int v2, .int v3, .int v4, .int v5, .null, .null] [.int 0] mem Q) : am_J m7_lineCrosses (D + 1) 79 [.ref 30, .int v1, .int v2, .int v3, .int v4, .int v5, .null, .null] [] mem Q := by
  refine am_iconst (pc := 79) (v := 0) dX7_lineCrosses_79 rfl ?_
  exact h
set_option maxRecDepth 100000 in
set_option maxHeartbeats 4000000 in
theorem sg7_lineCrosses_80 {D : Nat} {mem : am_Mem} {Q : Option Value → am_Mem → Prop} {v1 : Int32} {v2 : Int32} {v3 : Int32} {v4 : Int32} {v5 : Int32} {s0 : Int32} (h : vp_in v1 8 ∧ (vp_in v3 8 ∧ ((¬ (mem 31 v1.toNatClampNeg) = (mem 31 v3.toNatClampNeg) → am_J m7_lineCrosses (D + 1) 140 [.null, .null, .null, .null, .null, .int v5, .int s0, .null] [] mem Q) ∧ ((mem 31 v1.toNatClampNeg) = (mem 31 v3.toNatClampNeg) → vp_in v1 8 ∧ (vp_in v3 8 ∧ (am_Ci m7_isBetween D [.int (mem 32 v1.toNatClampNeg), .int (mem 32 v3.toNatClampNeg), .int v4] mem (fun r_1 mem_1 => (¬ r_1 = 0 → am_J m7_lineCrosses (D + 1) 136 [.null, .null, .null, .null, .null, .int v5, .int s0, .null] [] mem_1 Q) ∧ (r_1 = 0 → vp_in v3 8 ∧ (vp_in v1 8 ∧ (am_Ci m7_isBetween D [.int (mem_1 32 v3.toNatClampNeg), .int (mem_1 32 v1.toNatClampNeg), .int v2] mem_1 (fun r_2 mem_2 => (r_2 = 0 → am_J m7_lineCrosses (D + 1) 140 [.null, .null, .null, .null, .null, .int v5, .int s0, .null] [] mem_2 Q) ∧ (¬ r_2 = 0 → am_J m7_lineCrosses (D + 1) 136 [.null, .null, .null, .null, .null, .int v5, .int s0, .null] [] mem_2 Q)))))))))))) : am_J m7_lineCrosses (D + 1) 80 [.ref 30, .int v1, .int v2, .int v3, .int v4, .int v5, .null, .null] [.int s0] mem Q := by
  refine am_istoreE (pc := 80) (loc' := [.ref 30, .int v1, .int v2, .int v3, .int v4, .int v5, .int s0, .null]) dX7_lineCrosses_80 (by decide) rfl rfl ?_
  refine am_aload_n (pc := 82) 0 dX7_lineCrosses_82 rfl rfl ?_
  refine am_getR (pc := 83) (k := 3) cl7 sh30 (by decide) (by decide) f7_16 rfl dX7_lineCrosses_83 ?_
  refine am_iload_n (pc := 86) 1 dX7_lineCrosses_86 rfl rfl ?_
  refine am_iald (pc := 87) sh31 (by decide) h.1 dX7_lineCrosses_87 ?_
  replace h := h.2
  refine am_aload_n (pc := 88) 0 dX7_lineCrosses_88 rfl rfl ?_
  refine am_getR (pc := 89) (k := 3) cl7 sh30 (by decide) (by decide) f7_16 rfl dX7_lineCrosses_89 ?_
  refine am_iload_n (pc := 92) 3 dX7_lineCrosses_92 rfl rfl ?_
  refine am_iald (pc := 93) sh31 (by decide) h.1 dX7_lineCrosses_93 ?_
  replace h := h.2
  refine am_icmp_ne (pc := 94) 140 dX7_lineCrosses_94 (by decide) (fun c => ?_) (fun c => ?_)
  · replace h := h.1 c
    exact am_drop [0, 1, 2, 3, 4] h
  · replace h := h.2 c
    refine am_aload_n (pc := 97) 0 dX7_lineCrosses_97 rfl rfl ?_
    refine am_getR (pc := 98) (k := 4) cl7 sh30 (by decide) (by decide) f7_20 rfl dX7_lineCrosses_98 ?_
    refine am_iload_n (pc := 101) 1 dX7_lineCrosses_101 rfl rfl ?_
    refine am_iald (pc := 102) sh32 (by decide) h.1 dX7_lineCrosses_102 ?_
    replace h := h.2
    refine am_aload_n (pc := 103) 0 dX7_lineCrosses_103 rfl rfl ?_
    refine am_getR (pc := 104) (k := 4) cl7 sh30 (by decide) (by decide) f7_20 rfl dX7_lineCrosses_104 ?_
    refine am_iload_n (pc := 107) 3 dX7_lineCrosses_107 rfl rfl ?_
    refine am_iald (pc := 108) sh32 (by decide) h.1 dX7_lineCrosses_108 ?_
    replace h := h.2
    refine am_iload (pc := 109) dX7_lineCrosses_109 rfl ?_
    refine am_callS (pc := 111) m7_isBetween D 3 [.int (mem 32 v1.toNatClampNeg), .int (mem 32 v3.toNatClampNeg), .int v4] (rest := []) ok7_isBetween (by omega) rfl rfl l7_175 st7_isBetween (Nat.le_of_ble_eq_true rfl) dX7_lineCrosses_111 ?_
    refine am_Ci.use h (fun r_1 mem_1 h => ?_)
    show am_J m7_lineCrosses (D + 1) 114 [.ref 30, .int v1, .int v2, .int v3, .int v4, .int v5, .int s0, .null] [.int r_1] mem_1 Q
    refine am_if_ne (pc := 114) 136 dX7_lineCrosses_114 (by decide) (fun c => ?_) (fun c => ?_)
    · replace h := h.1 c
      exact am_drop [0, 1, 2, 3, 4] h
    · replace h := h.2 c
      refine am_aload_n (pc := 117) 0 dX7_lineCrosses_117 rfl rfl ?_
      refine am_getR (pc := 118) (k := 4) cl7 sh30 (by decide) (by decide) f7_20 rfl dX7_lineCrosses_118 ?_
      refine am_iload_n (pc := 121) 3 dX7_lineCrosses_121 rfl rfl ?_
      refine am_iald (pc := 122) sh32 (by decide) h.1 dX7_lineCrosses_122 ?_
      replace h := h.2
      refine am_aload_n (pc := 123) 0 dX7_lineCrosses_123 rfl rfl ?_
      refine am_getR (pc := 124) (k := 4) cl7 sh30 (by decide) (by decide) f7_20 rfl dX7_lineCrosses_124 ?_
      refine am_iload_n (pc := 127) 1 dX7_lineCrosses_127 rfl rfl ?_
      refine am_iald (pc := 128) sh32 (by decide) h.1 dX7_lineCrosses_128 ?_
      replace h := h.2
      refine am_iload_n (pc := 129) 2 dX7_lineCrosses_129 rfl rfl ?_
      refine am_callS (pc := 130) m7_isBetween D 3 [.int (mem_1 32 v3.toNatClampNeg), .int (mem_1 32 v1.toNatClampNeg), .int v2] (rest := []) ok7_isBetween (by omega) rfl rfl l7_175 st7_isBetween (Nat.le_of_ble_eq_true rfl) dX7_lineCrosses_130 ?_
      refine am_Ci.use h (fun r_2 mem_2 h => ?_)
      show am_J m7_lineCrosses (D + 1) 133 [.ref 30, .int v1, .int v2, .int v3, .int v4, .int v5, .int s0, .null] [.int r_2] mem_2 Q
      refine am_if_eq (pc := 133) 140 dX7_lineCrosses_133 (by decide) (fun c => ?_) (fun c => ?_)
      · replace h := h.1 c
        exact am_drop [0, 1, 2, 3, 4] h
      · replace h := h.2 c
        exact am_drop [0, 1, 2, 3, 4] h
set_option maxRecDepth 100000 in
set_option maxHeartbeats 4000000 in
theorem sg7_lineCrosses_136 {D : Nat} {mem : am_Mem} {Q : Option Value → am_Mem → Prop} {v5 : Int32} {v6 : Int32} (h : am_J m7_lineCrosses (D + 1) 141 [.null, .null, .null, .null, .null, .int v5, .int v6, .null] [.int 1] mem Q) : am_J m7_lineCrosses (D + 1) 136 [.null, .null, .null, .null, .null, .int v5, .int v6, .null] [] mem Q := by
  refine am_iconst (pc := 136) (v := 1) dX7_lineCrosses_136 rfl ?_
  refine am_goto (pc := 137) 141 dX7_lineCrosses_137 (by decide) ?_
  exact h
set_option maxRecDepth 100000 in
set_option maxHeartbeats 4000000 in
theorem sg7_lineCrosses_140 {D : Nat} {mem : am_Mem} {Q : Option Value → am_Mem → Prop} {v5 : Int32} {v6 : Int32} (h : am_J m7_lineCrosses (D + 1) 141 [.null, .null, .null, .null, .null, .int v5, .int v6, .null] [.int 0] mem Q) : am_J m7_lineCrosses (D + 1) 140 [.null, .null, .null, .null, .null, .int v5, .int v6, .null] [] mem Q := by
  refine am_iconst (pc := 140) (v := 0) dX7_lineCrosses_140 rfl ?_
  exact h
set_option maxRecDepth 100000 in
set_option maxHeartbeats 4000000 in
theorem sg7_lineCrosses_141 {D : Nat} {mem : am_Mem} {Q : Option Value → am_Mem → Prop} {v5 : Int32} {v6 : Int32} {s0 : Int32} (h : (¬ v5 = 0 → Q (some (.int 1)) mem) ∧ (v5 = 0 → (¬ v6 = 0 → Q (some (.int 1)) mem) ∧ (v6 = 0 → (s0 = 0 → Q (some (.int 0)) mem) ∧ (¬ s0 = 0 → Q (some (.int 1)) mem)))) : am_J m7_lineCrosses (D + 1) 141 [.null, .null, .null, .null, .null, .int v5, .int v6, .null] [.int s0] mem Q := by
  refine am_istoreE (pc := 141) (loc' := [.null, .null, .null, .null, .null, .int v5, .int v6, .int s0]) dX7_lineCrosses_141 (by decide) rfl rfl ?_
  refine am_iload (pc := 143) dX7_lineCrosses_143 rfl ?_
  refine am_if_ne (pc := 145) 158 dX7_lineCrosses_145 (by decide) (fun c => ?_) (fun c => ?_)
  · replace h := h.1 c
    refine am_iconst (pc := 158) (v := 1) dX7_lineCrosses_158 rfl ?_
    refine am_goto (pc := 159) 163 dX7_lineCrosses_159 (by decide) ?_
    exact am_zreturn rfl (by decide) dX7_lineCrosses_163 h
  · replace h := h.2 c
    refine am_iload (pc := 148) dX7_lineCrosses_148 rfl ?_
    refine am_if_ne (pc := 150) 158 dX7_lineCrosses_150 (by decide) (fun c => ?_) (fun c => ?_)
    · replace h := h.1 c
      refine am_iconst (pc := 158) (v := 1) dX7_lineCrosses_158 rfl ?_
      refine am_goto (pc := 159) 163 dX7_lineCrosses_159 (by decide) ?_
      exact am_zreturn rfl (by decide) dX7_lineCrosses_163 h
    · replace h := h.2 c
      refine am_iload (pc := 153) dX7_lineCrosses_153 rfl ?_
      refine am_if_eq (pc := 155) 162 dX7_lineCrosses_155 (by decide) (fun c => ?_) (fun c => ?_)
      · replace h := h.1 c
        refine am_iconst (pc := 162) (v := 0) dX7_lineCrosses_162 rfl ?_
        exact am_zreturn rfl (by decide) dX7_lineCrosses_163 h
      · replace h := h.2 c
        refine am_iconst (pc := 158) (v := 1) dX7_lineCrosses_158 rfl ?_
        refine am_goto (pc := 159) 163 dX7_lineCrosses_159 (by decide) ?_
        exact am_zreturn rfl (by decide) dX7_lineCrosses_163 h
set_option maxRecDepth 100000 in
set_option maxHeartbeats 4000000 in
theorem sg7_lengthOf_0 {D : Nat} {mem : am_Mem} {Q : Option Value → am_Mem → Prop} {v1 : Int32} {v2 : Int32} (h : vp_in v1 8 ∧ ((v2 ≤ (mem 32 v1.toNatClampNeg) → vp_in v1 8 ∧ (am_J m7_lengthOf D 29 [.ref 30, .int v1, .null, .null] [.int ((mem 32 v1.toNatClampNeg) - v2)] mem Q)) ∧ (¬ v2 ≤ (mem 32 v1.toNatClampNeg) → vp_in v1 8 ∧ (am_J m7_lengthOf D 29 [.ref 30, .int v1, .null, .null] [.int (v2 - (mem 32 v1.toNatClampNeg))] mem Q)))) : am_J m7_lengthOf D 0 [.ref 30, .int v1, .int v2, .null] [] mem Q := by
  refine am_aload_n (pc := 0) 0 dX7_lengthOf_0 rfl rfl ?_
  refine am_getR (pc := 1) (k := 4) cl7 sh30 (by decide) (by decide) f7_20 rfl dX7_lengthOf_1 ?_
  refine am_iload_n (pc := 4) 1 dX7_lengthOf_4 rfl rfl ?_
  refine am_iald (pc := 5) sh32 (by decide) h.1 dX7_lengthOf_5 ?_
  replace h := h.2
  refine am_iload_n (pc := 6) 2 dX7_lengthOf_6 rfl rfl ?_
  refine am_icmp_ge (pc := 7) 21 dX7_lengthOf_7 (by decide) (fun c => ?_) (fun c => ?_)
  · replace h := h.1 c
    refine am_aload_n (pc := 21) 0 dX7_lengthOf_21 rfl rfl ?_
    refine am_getR (pc := 22) (k := 4) cl7 sh30 (by decide) (by decide) f7_20 rfl dX7_lengthOf_22 ?_
    refine am_iload_n (pc := 25) 1 dX7_lengthOf_25 rfl rfl ?_
    refine am_iald (pc := 26) sh32 (by decide) h.1 dX7_lengthOf_26 ?_
    replace h := h.2
    refine am_iload_n (pc := 27) 2 dX7_lengthOf_27 rfl rfl ?_
    refine am_isub (pc := 28) dX7_lengthOf_28 ?_
    exact am_drop [2] h
  · replace h := h.2 c
    refine am_iload_n (pc := 10) 2 dX7_lengthOf_10 rfl rfl ?_
    refine am_aload_n (pc := 11) 0 dX7_lengthOf_11 rfl rfl ?_
    refine am_getR (pc := 12) (k := 4) cl7 sh30 (by decide) (by decide) f7_20 rfl dX7_lengthOf_12 ?_
    refine am_iload_n (pc := 15) 1 dX7_lengthOf_15 rfl rfl ?_
    refine am_iald (pc := 16) sh32 (by decide) h.1 dX7_lengthOf_16 ?_
    replace h := h.2
    refine am_isub (pc := 17) dX7_lengthOf_17 ?_
    refine am_goto (pc := 18) 29 dX7_lengthOf_18 (by decide) ?_
    exact am_drop [2] h
set_option maxRecDepth 100000 in
set_option maxHeartbeats 4000000 in
theorem sg7_lengthOf_29 {D : Nat} {mem : am_Mem} {Q : Option Value → am_Mem → Prop} {v1 : Int32} {s0 : Int32} (h : vp_in v1 8 ∧ (Q (some (.int ((s0 + (mem 30 0)) - (mem 31 v1.toNatClampNeg)))) mem)) : am_J m7_lengthOf D 29 [.ref 30, .int v1, .null, .null] [.int s0] mem Q := by
  refine am_istoreE_n (pc := 29) 3 (loc' := [.ref 30, .int v1, .null, .int s0]) dX7_lengthOf_29 rfl (by decide) rfl rfl ?_
  refine am_iload_n (pc := 30) 3 dX7_lengthOf_30 rfl rfl ?_
  refine am_aload_n (pc := 31) 0 dX7_lengthOf_31 rfl rfl ?_
  refine am_getI (pc := 32) (k := 0) cl7 sh30 (by decide) (by decide) f7_7 rfl dX7_lengthOf_32 ?_
  refine am_iadd (pc := 35) dX7_lengthOf_35 ?_
  refine am_aload_n (pc := 36) 0 dX7_lengthOf_36 rfl rfl ?_
  refine am_getR (pc := 37) (k := 3) cl7 sh30 (by decide) (by decide) f7_16 rfl dX7_lengthOf_37 ?_
  refine am_iload_n (pc := 40) 1 dX7_lengthOf_40 rfl rfl ?_
  refine am_iald (pc := 41) sh31 (by decide) h.1 dX7_lengthOf_41 ?_
  replace h := h.2
  refine am_isub (pc := 42) dX7_lengthOf_42 ?_
  exact am_ireturn rfl dX7_lengthOf_43 h
set_option maxRecDepth 100000 in
set_option maxHeartbeats 4000000 in
theorem sg7_isDeal_0 {D : Nat} {mem : am_Mem} {Q : Option Value → am_Mem → Prop}  (h : am_J m7_isDeal D 4 [.ref 30, .int 0, .int 0] [] mem Q) : am_J m7_isDeal D 0 [.ref 30, .null, .null] [] mem Q := by
  refine am_iconst (pc := 0) (v := 0) dX7_isDeal_0 rfl ?_
  refine am_istoreE_n (pc := 1) 1 (loc' := [.ref 30, .int 0, .null]) dX7_isDeal_1 rfl (by decide) rfl rfl ?_
  refine am_iconst (pc := 2) (v := 0) dX7_isDeal_2 rfl ?_
  refine am_istoreE_n (pc := 3) 2 (loc' := [.ref 30, .int 0, .int 0]) dX7_isDeal_3 rfl (by decide) rfl rfl ?_
  exact h
set_option maxRecDepth 100000 in
set_option maxHeartbeats 4000000 in
theorem sg7_isDeal_4 {D : Nat} {mem : am_Mem} {Q : Option Value → am_Mem → Prop} {v1 : Int32} {v2 : Int32} (h : ((mem 30 27) ≤ v2 → (¬ v1 = (((1 : Int32) <<< ((mem 30 27) &&& 31)) - (1 : Int32)) → Q (some (.int 0)) mem) ∧ (v1 = (((1 : Int32) <<< ((mem 30 27) &&& 31)) - (1 : Int32)) → Q (some (.int 1)) mem)) ∧ (¬ (mem 30 27) ≤ v2 → vp_in v2 6 ∧ (am_J m7_isDeal D 4 [.ref 30, .int (v1 ||| ((1 : Int32) <<< ((mem 46 v2.toNatClampNeg) &&& 31))), .int (v2 + 1)] [] mem Q))) : am_J m7_isDeal D 4 [.ref 30, .int v1, .int v2] [] mem Q := by
  refine am_iload_n (pc := 4) 2 dX7_isDeal_4 rfl rfl ?_
  refine am_aload_n (pc := 5) 0 dX7_isDeal_5 rfl rfl ?_
  refine am_getI (pc := 6) (k := 27) cl7 sh30 (by decide) (by decide) f7_179 rfl dX7_isDeal_6 ?_
  refine am_icmp_ge (pc := 9) 29 dX7_isDeal_9 (by decide) (fun c => ?_) (fun c => ?_)
  · replace h := h.1 c
    refine am_iload_n (pc := 29) 1 dX7_isDeal_29 rfl rfl ?_
    refine am_iconst (pc := 30) (v := 1) dX7_isDeal_30 rfl ?_
    refine am_aload_n (pc := 31) 0 dX7_isDeal_31 rfl rfl ?_
    refine am_getI (pc := 32) (k := 27) cl7 sh30 (by decide) (by decide) f7_179 rfl dX7_isDeal_32 ?_
    refine am_ishl (pc := 35) dX7_isDeal_35 ?_
    refine am_iconst (pc := 36) (v := 1) dX7_isDeal_36 rfl ?_
    refine am_isub (pc := 37) dX7_isDeal_37 ?_
    refine am_icmp_ne (pc := 38) 45 dX7_isDeal_38 (by decide) (fun c => ?_) (fun c => ?_)
    · replace h := h.1 c
      refine am_iconst (pc := 45) (v := 0) dX7_isDeal_45 rfl ?_
      exact am_zreturn rfl (by decide) dX7_isDeal_46 h
    · replace h := h.2 c
      refine am_iconst (pc := 41) (v := 1) dX7_isDeal_41 rfl ?_
      refine am_goto (pc := 42) 46 dX7_isDeal_42 (by decide) ?_
      exact am_zreturn rfl (by decide) dX7_isDeal_46 h
  · replace h := h.2 c
    refine am_iload_n (pc := 12) 1 dX7_isDeal_12 rfl rfl ?_
    refine am_iconst (pc := 13) (v := 1) dX7_isDeal_13 rfl ?_
    refine am_aload_n (pc := 14) 0 dX7_isDeal_14 rfl rfl ?_
    refine am_getR (pc := 15) (k := 25) cl7 sh30 (by decide) (by decide) f7_68 rfl dX7_isDeal_15 ?_
    refine am_iload_n (pc := 18) 2 dX7_isDeal_18 rfl rfl ?_
    refine am_iald (pc := 19) sh46 (by decide) h.1 dX7_isDeal_19 ?_
    replace h := h.2
    refine am_ishl (pc := 20) dX7_isDeal_20 ?_
    refine am_ior (pc := 21) dX7_isDeal_21 ?_
    refine am_istoreE_n (pc := 22) 1 (loc' := [.ref 30, .int (v1 ||| ((1 : Int32) <<< ((mem 46 v2.toNatClampNeg) &&& 31))), .int v2]) dX7_isDeal_22 rfl (by decide) rfl rfl ?_
    refine am_iincE (pc := 23) (v := 1) (loc' := [.ref 30, .int (v1 ||| ((1 : Int32) <<< ((mem 46 v2.toNatClampNeg) &&& 31))), .int (v2 + 1)]) dX7_isDeal_23 rfl rfl (by decide) rfl rfl ?_
    refine am_goto (pc := 26) 4 dX7_isDeal_26 (by decide) ?_
    exact h
set_option maxRecDepth 100000 in
set_option maxHeartbeats 4000000 in
theorem sg7_weigh_0 {D : Nat} {mem : am_Mem} {Q : Option Value → am_Mem → Prop}  (h : am_J m7_weigh (D + 1) 6 [.ref 30, .int 0, .int 0, .int 0, .null, .null] [] mem Q) : am_J m7_weigh (D + 1) 0 [.ref 30, .null, .null, .null, .null, .null] [] mem Q := by
  refine am_iconst (pc := 0) (v := 0) dX7_weigh_0 rfl ?_
  refine am_istoreE_n (pc := 1) 1 (loc' := [.ref 30, .int 0, .null, .null, .null, .null]) dX7_weigh_1 rfl (by decide) rfl rfl ?_
  refine am_iconst (pc := 2) (v := 0) dX7_weigh_2 rfl ?_
  refine am_istoreE_n (pc := 3) 2 (loc' := [.ref 30, .int 0, .int 0, .null, .null, .null]) dX7_weigh_3 rfl (by decide) rfl rfl ?_
  refine am_iconst (pc := 4) (v := 0) dX7_weigh_4 rfl ?_
  refine am_istoreE_n (pc := 5) 3 (loc' := [.ref 30, .int 0, .int 0, .int 0, .null, .null]) dX7_weigh_5 rfl (by decide) rfl rfl ?_
  exact h
set_option maxRecDepth 100000 in
set_option maxHeartbeats 4000000 in
theorem sg7_weigh_6 {D : Nat} {mem : am_Mem} {Q : Option Value → am_Mem → Prop} {v1 : Int32} {v2 : Int32} {v3 : Int32} (h : ((mem 30 27) ≤ v3 → (v1 < (mem 30 28) → am_J m7_weigh (D + 1) 139 [.ref 30, .int v1, .int v2, .null, .null, .null] [] mem Q) ∧ (¬ v1 < (mem 30 28) → (¬ v1 = (mem 30 28) → Q none mem) ∧ (v1 = (mem 30 28) → ((mem 30 29) ≤ v2 → Q none mem) ∧ (¬ (mem 30 29) ≤ v2 → am_J m7_weigh (D + 1) 139 [.ref 30, .int v1, .int v2, .null, .null, .null] [] mem Q)))) ∧ (¬ (mem 30 27) ≤ v3 → vp_in v3 6 ∧ (¬ (mem 30 27) = 0 ∧ (vp_in v3 6 ∧ (am_Ci m7_lengthOf D [.ref 30, .int (mem 45 v3.toNatClampNeg), .int (((mem 46 v3.toNatClampNeg) * (mem 30 1)) / (mem 30 27))] mem (fun r_1 mem_1 => am_J m7_weigh (D + 1) 50 [.ref 30, .int v1, .int (v2 + r_1), .int v3, .int (((mem 46 v3.toNatClampNeg) * (mem 30 1)) / (mem 30 27)), .int 0] [] mem_1 Q)))))) : am_J m7_weigh (D + 1) 6 [.ref 30, .int v1, .int v2, .int v3, .null, .null] [] mem Q := by
  refine am_iload_n (pc := 6) 3 dX7_weigh_6 rfl rfl ?_
  refine am_aload_n (pc := 7) 0 dX7_weigh_7 rfl rfl ?_
  refine am_getI (pc := 8) (k := 27) cl7 sh30 (by decide) (by decide) f7_179 rfl dX7_weigh_8 ?_
  refine am_icmp_ge (pc := 11) 115 dX7_weigh_11 (by decide) (fun c => ?_) (fun c => ?_)
  · replace h := h.1 c
    refine am_iload_n (pc := 115) 1 dX7_weigh_115 rfl rfl ?_
    refine am_aload_n (pc := 116) 0 dX7_weigh_116 rfl rfl ?_
    refine am_getI (pc := 117) (k := 28) cl7 sh30 (by decide) (by decide) f7_188 rfl dX7_weigh_117 ?_
    refine am_icmp_lt (pc := 120) 139 dX7_weigh_120 (by decide) (fun c => ?_) (fun c => ?_)
    · replace h := h.1 c
      exact am_drop [3] h
    · replace h := h.2 c
      refine am_iload_n (pc := 123) 1 dX7_weigh_123 rfl rfl ?_
      refine am_aload_n (pc := 124) 0 dX7_weigh_124 rfl rfl ?_
      refine am_getI (pc := 125) (k := 28) cl7 sh30 (by decide) (by decide) f7_188 rfl dX7_weigh_125 ?_
      refine am_icmp_ne (pc := 128) 177 dX7_weigh_128 (by decide) (fun c => ?_) (fun c => ?_)
      · replace h := h.1 c
        exact am_return rfl dX7_weigh_177 h
      · replace h := h.2 c
        refine am_iload_n (pc := 131) 2 dX7_weigh_131 rfl rfl ?_
        refine am_aload_n (pc := 132) 0 dX7_weigh_132 rfl rfl ?_
        refine am_getI (pc := 133) (k := 29) cl7 sh30 (by decide) (by decide) f7_191 rfl dX7_weigh_133 ?_
        refine am_icmp_ge (pc := 136) 177 dX7_weigh_136 (by decide) (fun c => ?_) (fun c => ?_)
        · replace h := h.1 c
          exact am_return rfl dX7_weigh_177 h
        · replace h := h.2 c
          exact am_drop [3] h
  · replace h := h.2 c
    refine am_aload_n (pc := 14) 0 dX7_weigh_14 rfl rfl ?_
    refine am_getR (pc := 15) (k := 25) cl7 sh30 (by decide) (by decide) f7_68 rfl dX7_weigh_15 ?_
    refine am_iload_n (pc := 18) 3 dX7_weigh_18 rfl rfl ?_
    refine am_iald (pc := 19) sh46 (by decide) h.1 dX7_weigh_19 ?_
    replace h := h.2
    refine am_aload_n (pc := 20) 0 dX7_weigh_20 rfl rfl ?_
    refine am_getI (pc := 21) (k := 1) cl7 sh30 (by decide) (by decide) f7_13 rfl dX7_weigh_21 ?_
    refine am_imul (pc := 24) dX7_weigh_24 ?_
    refine am_aload_n (pc := 25) 0 dX7_weigh_25 rfl rfl ?_
    refine am_getI (pc := 26) (k := 27) cl7 sh30 (by decide) (by decide) f7_179 rfl dX7_weigh_26 ?_
    refine am_idiv (pc := 29) dX7_weigh_29 h.1 ?_
    replace h := h.2
    refine am_istoreE (pc := 30) (loc' := [.ref 30, .int v1, .int v2, .int v3, .int (((mem 46 v3.toNatClampNeg) * (mem 30 1)) / (mem 30 27)), .null]) dX7_weigh_30 (by decide) rfl rfl ?_
    refine am_iload_n (pc := 32) 2 dX7_weigh_32 rfl rfl ?_
    refine am_aload_n (pc := 33) 0 dX7_weigh_33 rfl rfl ?_
    refine am_aload_n (pc := 34) 0 dX7_weigh_34 rfl rfl ?_
    refine am_getR (pc := 35) (k := 24) cl7 sh30 (by decide) (by decide) f7_65 rfl dX7_weigh_35 ?_
    refine am_iload_n (pc := 38) 3 dX7_weigh_38 rfl rfl ?_
    refine am_iald (pc := 39) sh45 (by decide) h.1 dX7_weigh_39 ?_
    replace h := h.2
    refine am_iload (pc := 40) dX7_weigh_40 rfl ?_
    refine am_callV (pc := 42) m7_lengthOf D 2 [.int (mem 45 v3.toNatClampNeg), .int (((mem 46 v3.toNatClampNeg) * (mem 30 1)) / (mem 30 27))] (rest := [.int v2]) ok7_lengthOf (by omega) rfl rfl sh30 (by decide) rfl l7_182 in7_lengthOf se7_lengthOf (Nat.le_of_ble_eq_true rfl) dX7_weigh_42 ?_
    refine am_Ci.use h (fun r_1 mem_1 h => ?_)
    show am_J m7_weigh (D + 1) 45 [.ref 30, .int v1, .int v2, .int v3, .int (((mem 46 v3.toNatClampNeg) * (mem 30 1)) / (mem 30 27)), .null] [.int r_1, .int v2] mem_1 Q
    refine am_iadd (pc := 45) dX7_weigh_45 ?_
    refine am_istoreE_n (pc := 46) 2 (loc' := [.ref 30, .int v1, .int (v2 + r_1), .int v3, .int (((mem 46 v3.toNatClampNeg) * (mem 30 1)) / (mem 30 27)), .null]) dX7_weigh_46 rfl (by decide) rfl rfl ?_
    refine am_iconst (pc := 47) (v := 0) dX7_weigh_47 rfl ?_
    refine am_istoreE (pc := 48) (loc' := [.ref 30, .int v1, .int (v2 + r_1), .int v3, .int (((mem 46 v3.toNatClampNeg) * (mem 30 1)) / (mem 30 27)), .int 0]) dX7_weigh_48 (by decide) rfl rfl ?_
    exact h
set_option maxRecDepth 100000 in
set_option maxHeartbeats 4000000 in
theorem sg7_weigh_50 {D : Nat} {mem : am_Mem} {Q : Option Value → am_Mem → Prop} {v1 : Int32} {v2 : Int32} {v3 : Int32} {v4 : Int32} {v5 : Int32} (h : (v3 ≤ v5 → am_J m7_weigh (D + 1) 6 [.ref 30, .int v1, .int v2, .int (v3 + 1), .null, .null] [] mem Q) ∧ (¬ v3 ≤ v5 → vp_in v3 6 ∧ (vp_in v5 6 ∧ (vp_in v5 6 ∧ (¬ (mem 30 27) = 0 ∧ (am_Ci m7_lineCrosses D [.ref 30, .int (mem 45 v3.toNatClampNeg), .int v4, .int (mem 45 v5.toNatClampNeg), .int (((mem 46 v5.toNatClampNeg) * (mem 30 1)) / (mem 30 27))] mem (fun r_1 mem_1 => (r_1 = 0 → am_J m7_weigh (D + 1) 101 [.ref 30, .null, .int v2, .int v3, .int v4, .int v5] [.int 0, .int v1] mem_1 Q) ∧ (¬ r_1 = 0 → am_J m7_weigh (D + 1) 101 [.ref 30, .null, .int v2, .int v3, .int v4, .int v5] [.int 1, .int v1] mem_1 Q)))))))) : am_J m7_weigh (D + 1) 50 [.ref 30, .int v1, .int v2, .int v3, .int v4, .int v5] [] mem Q := by
  refine am_iload (pc := 50) dX7_weigh_50 rfl ?_
  refine am_iload_n (pc := 52) 3 dX7_weigh_52 rfl rfl ?_
  refine am_icmp_ge (pc := 53) 109 dX7_weigh_53 (by decide) (fun c => ?_) (fun c => ?_)
  · replace h := h.1 c
    refine am_iincE (pc := 109) (v := 1) (loc' := [.ref 30, .int v1, .int v2, .int (v3 + 1), .int v4, .int v5]) dX7_weigh_109 rfl rfl (by decide) rfl rfl ?_
    refine am_goto (pc := 112) 6 dX7_weigh_112 (by decide) ?_
    exact am_drop [4, 5] h
  · replace h := h.2 c
    refine am_iload_n (pc := 56) 1 dX7_weigh_56 rfl rfl ?_
    refine am_aload_n (pc := 57) 0 dX7_weigh_57 rfl rfl ?_
    refine am_aload_n (pc := 58) 0 dX7_weigh_58 rfl rfl ?_
    refine am_getR (pc := 59) (k := 24) cl7 sh30 (by decide) (by decide) f7_65 rfl dX7_weigh_59 ?_
    refine am_iload_n (pc := 62) 3 dX7_weigh_62 rfl rfl ?_
    refine am_iald (pc := 63) sh45 (by decide) h.1 dX7_weigh_63 ?_
    replace h := h.2
    refine am_iload (pc := 64) dX7_weigh_64 rfl ?_
    refine am_aload_n (pc := 66) 0 dX7_weigh_66 rfl rfl ?_
    refine am_getR (pc := 67) (k := 24) cl7 sh30 (by decide) (by decide) f7_65 rfl dX7_weigh_67 ?_
    refine am_iload (pc := 70) dX7_weigh_70 rfl ?_
    refine am_iald (pc := 72) sh45 (by decide) h.1 dX7_weigh_72 ?_
    replace h := h.2
    refine am_aload_n (pc := 73) 0 dX7_weigh_73 rfl rfl ?_
    refine am_getR (pc := 74) (k := 25) cl7 sh30 (by decide) (by decide) f7_68 rfl dX7_weigh_74 ?_
    refine am_iload (pc := 77) dX7_weigh_77 rfl ?_
    refine am_iald (pc := 79) sh46 (by decide) h.1 dX7_weigh_79 ?_
    replace h := h.2
    refine am_aload_n (pc := 80) 0 dX7_weigh_80 rfl rfl ?_
    refine am_getI (pc := 81) (k := 1) cl7 sh30 (by decide) (by decide) f7_13 rfl dX7_weigh_81 ?_
    refine am_imul (pc := 84) dX7_weigh_84 ?_
    refine am_aload_n (pc := 85) 0 dX7_weigh_85 rfl rfl ?_
    refine am_getI (pc := 86) (k := 27) cl7 sh30 (by decide) (by decide) f7_179 rfl dX7_weigh_86 ?_
    refine am_idiv (pc := 89) dX7_weigh_89 h.1 ?_
    replace h := h.2
    refine am_callV (pc := 90) m7_lineCrosses D 4 [.int (mem 45 v3.toNatClampNeg), .int v4, .int (mem 45 v5.toNatClampNeg), .int (((mem 46 v5.toNatClampNeg) * (mem 30 1)) / (mem 30 27))] (rest := [.int v1]) ok7_lineCrosses (by omega) rfl rfl sh30 (by decide) rfl l7_185 in7_lineCrosses se7_lineCrosses (Nat.le_of_ble_eq_true rfl) dX7_weigh_90 ?_
    refine am_Ci.use h (fun r_1 mem_1 h => ?_)
    show am_J m7_weigh (D + 1) 93 [.ref 30, .int v1, .int v2, .int v3, .int v4, .int v5] [.int r_1, .int v1] mem_1 Q
    refine am_if_eq (pc := 93) 100 dX7_weigh_93 (by decide) (fun c => ?_) (fun c => ?_)
    · replace h := h.1 c
      refine am_iconst (pc := 100) (v := 0) dX7_weigh_100 rfl ?_
      exact am_drop [1] h
    · replace h := h.2 c
      refine am_iconst (pc := 96) (v := 1) dX7_weigh_96 rfl ?_
      refine am_goto (pc := 97) 101 dX7_weigh_97 (by decide) ?_
      exact am_drop [1] h
set_option maxRecDepth 100000 in
set_option maxHeartbeats 4000000 in
theorem sg7_weigh_101 {D : Nat} {mem : am_Mem} {Q : Option Value → am_Mem → Prop} {v2 : Int32} {v3 : Int32} {v4 : Int32} {v5 : Int32} {s0 : Int32} {s1 : Int32} (h : am_J m7_weigh (D + 1) 50 [.ref 30, .int (s1 + s0), .int v2, .int v3, .int v4, .int (v5 + 1)] [] mem Q) : am_J m7_weigh (D + 1) 101 [.ref 30, .null, .int v2, .int v3, .int v4, .int v5] [.int s0, .int s1] mem Q := by
  refine am_iadd (pc := 101) dX7_weigh_101 ?_
  refine am_istoreE_n (pc := 102) 1 (loc' := [.ref 30, .int (s1 + s0), .int v2, .int v3, .int v4, .int v5]) dX7_weigh_102 rfl (by decide) rfl rfl ?_
  refine am_iincE (pc := 103) (v := 1) (loc' := [.ref 30, .int (s1 + s0), .int v2, .int v3, .int v4, .int (v5 + 1)]) dX7_weigh_103 rfl rfl (by decide) rfl rfl ?_
  refine am_goto (pc := 106) 50 dX7_weigh_106 (by decide) ?_
  exact h
set_option maxRecDepth 100000 in
set_option maxHeartbeats 4000000 in
theorem sg7_weigh_139 {D : Nat} {mem : am_Mem} {Q : Option Value → am_Mem → Prop} {v1 : Int32} {v2 : Int32} (h : am_J m7_weigh (D + 1) 151 [.ref 30, .null, .null, .int 0, .null, .null] [] (am_set (am_set mem 30 28 v1) 30 29 v2) Q) : am_J m7_weigh (D + 1) 139 [.ref 30, .int v1, .int v2, .null, .null, .null] [] mem Q := by
  refine am_aload_n (pc := 139) 0 dX7_weigh_139 rfl rfl ?_
  refine am_iload_n (pc := 140) 1 dX7_weigh_140 rfl rfl ?_
  refine am_putI (pc := 141) (k := 28) cl7 sh30 (by decide) (by decide) f7_188 rfl rfl rfl dX7_weigh_141 ?_
  refine am_aload_n (pc := 144) 0 dX7_weigh_144 rfl rfl ?_
  refine am_iload_n (pc := 145) 2 dX7_weigh_145 rfl rfl ?_
  refine am_putI (pc := 146) (k := 29) cl7 sh30 (by decide) (by decide) f7_191 rfl rfl rfl dX7_weigh_146 ?_
  refine am_iconst (pc := 149) (v := 0) dX7_weigh_149 rfl ?_
  refine am_istoreE_n (pc := 150) 3 (loc' := [.ref 30, .int v1, .int v2, .int 0, .null, .null]) dX7_weigh_150 rfl (by decide) rfl rfl ?_
  exact am_drop [1, 2] h
set_option maxRecDepth 100000 in
set_option maxHeartbeats 4000000 in
theorem sg7_weigh_151 {D : Nat} {mem : am_Mem} {Q : Option Value → am_Mem → Prop} {v3 : Int32} (h : ((mem 30 27) ≤ v3 → Q none mem) ∧ (¬ (mem 30 27) ≤ v3 → vp_in v3 6 ∧ (vp_in v3 6 ∧ (am_J m7_weigh (D + 1) 151 [.ref 30, .null, .null, .int (v3 + 1), .null, .null] [] (am_set mem 47 v3.toNatClampNeg (mem 46 v3.toNatClampNeg)) Q)))) : am_J m7_weigh (D + 1) 151 [.ref 30, .null, .null, .int v3, .null, .null] [] mem Q := by
  refine am_iload_n (pc := 151) 3 dX7_weigh_151 rfl rfl ?_
  refine am_aload_n (pc := 152) 0 dX7_weigh_152 rfl rfl ?_
  refine am_getI (pc := 153) (k := 27) cl7 sh30 (by decide) (by decide) f7_179 rfl dX7_weigh_153 ?_
  refine am_icmp_ge (pc := 156) 177 dX7_weigh_156 (by decide) (fun c => ?_) (fun c => ?_)
  · replace h := h.1 c
    exact am_return rfl dX7_weigh_177 h
  · replace h := h.2 c
    refine am_aload_n (pc := 159) 0 dX7_weigh_159 rfl rfl ?_
    refine am_getR (pc := 160) (k := 26) cl7 sh30 (by decide) (by decide) f7_71 rfl dX7_weigh_160 ?_
    refine am_iload_n (pc := 163) 3 dX7_weigh_163 rfl rfl ?_
    refine am_aload_n (pc := 164) 0 dX7_weigh_164 rfl rfl ?_
    refine am_getR (pc := 165) (k := 25) cl7 sh30 (by decide) (by decide) f7_68 rfl dX7_weigh_165 ?_
    refine am_iload_n (pc := 168) 3 dX7_weigh_168 rfl rfl ?_
    refine am_iald (pc := 169) sh46 (by decide) h.1 dX7_weigh_169 ?_
    replace h := h.2
    refine am_iast (pc := 170) sh47 (by decide) h.1 dX7_weigh_170 ?_
    replace h := h.2
    refine am_iincE (pc := 171) (v := 1) (loc' := [.ref 30, .null, .null, .int (v3 + 1), .null, .null]) dX7_weigh_171 rfl rfl (by decide) rfl rfl ?_
    refine am_goto (pc := 174) 151 dX7_weigh_174 (by decide) ?_
    exact h
set_option maxRecDepth 100000 in
set_option maxHeartbeats 4000000 in
theorem sg7_layDeal_0 {D : Nat} {mem : am_Mem} {Q : Option Value → am_Mem → Prop} {v1 : Int32} (h : am_J m7_layDeal (D + 1) 9 [.ref 30, .int v1, .int 1, .int 0, .null, .null] [] (am_set mem 30 27 0) Q) : am_J m7_layDeal (D + 1) 0 [.ref 30, .int v1, .null, .null, .null, .null] [] mem Q := by
  refine am_aload_n (pc := 0) 0 dX7_layDeal_0 rfl rfl ?_
  refine am_iconst (pc := 1) (v := 0) dX7_layDeal_1 rfl ?_
  refine am_putI (pc := 2) (k := 27) cl7 sh30 (by decide) (by decide) f7_179 rfl rfl rfl dX7_layDeal_2 ?_
  refine am_iconst (pc := 5) (v := 1) dX7_layDeal_5 rfl ?_
  refine am_istoreE_n (pc := 6) 2 (loc' := [.ref 30, .int v1, .int 1, .null, .null, .null]) dX7_layDeal_6 rfl (by decide) rfl rfl ?_
  refine am_iconst (pc := 7) (v := 0) dX7_layDeal_7 rfl ?_
  refine am_istoreE_n (pc := 8) 3 (loc' := [.ref 30, .int v1, .int 1, .int 0, .null, .null]) dX7_layDeal_8 rfl (by decide) rfl rfl ?_
  exact h
set_option maxRecDepth 100000 in
set_option maxHeartbeats 4000000 in
theorem sg7_layDeal_9 {D : Nat} {mem : am_Mem} {Q : Option Value → am_Mem → Prop} {v1 : Int32} {v2 : Int32} {v3 : Int32} (h : ((mem 30 2) ≤ v3 → am_J m7_layDeal (D + 1) 54 [.ref 30, .null, .int v2, .int 0, .null, .null] [] mem Q) ∧ (¬ (mem 30 2) ≤ v3 → (¬ ((v1 >>> (v3 &&& 31)) &&& (1 : Int32)) = 1 → am_J m7_layDeal (D + 1) 46 [.ref 30, .int v1, .int v2, .int v3, .null, .null] [] mem Q) ∧ (((v1 >>> (v3 &&& 31)) &&& (1 : Int32)) = 1 → vp_in (mem 30 27) 6 ∧ (am_J m7_layDeal (D + 1) 46 [.ref 30, .int v1, .int v2, .int v3, .null, .null] [] (am_set (am_set mem 45 (mem 30 27).toNatClampNeg v3) 30 27 (((am_set mem 45 (mem 30 27).toNatClampNeg v3) 30 27) + (1 : Int32))) Q)))) : am_J m7_layDeal (D + 1) 9 [.ref 30, .int v1, .int v2, .int v3, .null, .null] [] mem Q := by
  refine am_iload_n (pc := 9) 3 dX7_layDeal_9 rfl rfl ?_
  refine am_aload_n (pc := 10) 0 dX7_layDeal_10 rfl rfl ?_
  refine am_getI (pc := 11) (k := 2) cl7 sh30 (by decide) (by decide) f7_74 rfl dX7_layDeal_11 ?_
  refine am_icmp_ge (pc := 14) 52 dX7_layDeal_14 (by decide) (fun c => ?_) (fun c => ?_)
  · replace h := h.1 c
    refine am_iconst (pc := 52) (v := 0) dX7_layDeal_52 rfl ?_
    refine am_istoreE_n (pc := 53) 3 (loc' := [.ref 30, .int v1, .int v2, .int 0, .null, .null]) dX7_layDeal_53 rfl (by decide) rfl rfl ?_
    exact am_drop [1] h
  · replace h := h.2 c
    refine am_iload_n (pc := 17) 1 dX7_layDeal_17 rfl rfl ?_
    refine am_iload_n (pc := 18) 3 dX7_layDeal_18 rfl rfl ?_
    refine am_ishr (pc := 19) dX7_layDeal_19 ?_
    refine am_iconst (pc := 20) (v := 1) dX7_layDeal_20 rfl ?_
    refine am_iand (pc := 21) dX7_layDeal_21 ?_
    refine am_iconst (pc := 22) (v := 1) dX7_layDeal_22 rfl ?_
    refine am_icmp_ne (pc := 23) 46 dX7_layDeal_23 (by decide) (fun c => ?_) (fun c => ?_)
    · replace h := h.1 c
      exact h
    · replace h := h.2 c
      refine am_aload_n (pc := 26) 0 dX7_layDeal_26 rfl rfl ?_
      refine am_getR (pc := 27) (k := 24) cl7 sh30 (by decide) (by decide) f7_65 rfl dX7_layDeal_27 ?_
      refine am_aload_n (pc := 30) 0 dX7_layDeal_30 rfl rfl ?_
      refine am_getI (pc := 31) (k := 27) cl7 sh30 (by decide) (by decide) f7_179 rfl dX7_layDeal_31 ?_
      refine am_iload_n (pc := 34) 3 dX7_layDeal_34 rfl rfl ?_
      refine am_iast (pc := 35) sh45 (by decide) h.1 dX7_layDeal_35 ?_
      replace h := h.2
      refine am_aload_n (pc := 36) 0 dX7_layDeal_36 rfl rfl ?_
      refine am_dup (pc := 37) dX7_layDeal_37 rfl ?_
      refine am_getI (pc := 38) (k := 27) cl7 sh30 (by decide) (by decide) f7_179 rfl dX7_layDeal_38 ?_
      refine am_iconst (pc := 41) (v := 1) dX7_layDeal_41 rfl ?_
      refine am_iadd (pc := 42) dX7_layDeal_42 ?_
      refine am_putI (pc := 43) (k := 27) cl7 sh30 (by decide) (by decide) f7_179 rfl rfl rfl dX7_layDeal_43 ?_
      exact h
set_option maxRecDepth 100000 in
set_option maxHeartbeats 4000000 in
theorem sg7_layDeal_46 {D : Nat} {mem : am_Mem} {Q : Option Value → am_Mem → Prop} {v1 : Int32} {v2 : Int32} {v3 : Int32} (h : am_J m7_layDeal (D + 1) 9 [.ref 30, .int v1, .int v2, .int (v3 + 1), .null, .null] [] mem Q) : am_J m7_layDeal (D + 1) 46 [.ref 30, .int v1, .int v2, .int v3, .null, .null] [] mem Q := by
  refine am_iincE (pc := 46) (v := 1) (loc' := [.ref 30, .int v1, .int v2, .int (v3 + 1), .null, .null]) dX7_layDeal_46 rfl rfl (by decide) rfl rfl ?_
  refine am_goto (pc := 49) 9 dX7_layDeal_49 (by decide) ?_
  exact h
set_option maxRecDepth 100000 in
set_option maxHeartbeats 4000000 in
theorem sg7_layDeal_54 {D : Nat} {mem : am_Mem} {Q : Option Value → am_Mem → Prop} {v2 : Int32} {v3 : Int32} (h : ((mem 30 27) ≤ v3 → am_J m7_layDeal (D + 1) 89 [.ref 30, .null, .int v2, .int 0, .null, .null] [] (am_set (am_set mem 30 28 1000) 30 29 0) Q) ∧ (¬ (mem 30 27) ≤ v3 → am_J m7_layDeal (D + 1) 54 [.ref 30, .null, .int (v2 * (mem 30 27)), .int (v3 + 1), .null, .null] [] mem Q)) : am_J m7_layDeal (D + 1) 54 [.ref 30, .null, .int v2, .int v3, .null, .null] [] mem Q := by
  refine am_iload_n (pc := 54) 3 dX7_layDeal_54 rfl rfl ?_
  refine am_aload_n (pc := 55) 0 dX7_layDeal_55 rfl rfl ?_
  refine am_getI (pc := 56) (k := 27) cl7 sh30 (by decide) (by decide) f7_179 rfl dX7_layDeal_56 ?_
  refine am_icmp_ge (pc := 59) 75 dX7_layDeal_59 (by decide) (fun c => ?_) (fun c => ?_)
  · replace h := h.1 c
    refine am_aload_n (pc := 75) 0 dX7_layDeal_75 rfl rfl ?_
    refine am_sipush (pc := 76) (v := 1000) dX7_layDeal_76 rfl ?_
    refine am_putI (pc := 79) (k := 28) cl7 sh30 (by decide) (by decide) f7_188 rfl rfl rfl dX7_layDeal_79 ?_
    refine am_aload_n (pc := 82) 0 dX7_layDeal_82 rfl rfl ?_
    refine am_iconst (pc := 83) (v := 0) dX7_layDeal_83 rfl ?_
    refine am_putI (pc := 84) (k := 29) cl7 sh30 (by decide) (by decide) f7_191 rfl rfl rfl dX7_layDeal_84 ?_
    refine am_iconst (pc := 87) (v := 0) dX7_layDeal_87 rfl ?_
    refine am_istoreE_n (pc := 88) 3 (loc' := [.ref 30, .null, .int v2, .int 0, .null, .null]) dX7_layDeal_88 rfl (by decide) rfl rfl ?_
    exact h
  · replace h := h.2 c
    refine am_iload_n (pc := 62) 2 dX7_layDeal_62 rfl rfl ?_
    refine am_aload_n (pc := 63) 0 dX7_layDeal_63 rfl rfl ?_
    refine am_getI (pc := 64) (k := 27) cl7 sh30 (by decide) (by decide) f7_179 rfl dX7_layDeal_64 ?_
    refine am_imul (pc := 67) dX7_layDeal_67 ?_
    refine am_istoreE_n (pc := 68) 2 (loc' := [.ref 30, .null, .int (v2 * (mem 30 27)), .int v3, .null, .null]) dX7_layDeal_68 rfl (by decide) rfl rfl ?_
    refine am_iincE (pc := 69) (v := 1) (loc' := [.ref 30, .null, .int (v2 * (mem 30 27)), .int (v3 + 1), .null, .null]) dX7_layDeal_69 rfl rfl (by decide) rfl rfl ?_
    refine am_goto (pc := 72) 54 dX7_layDeal_72 (by decide) ?_
    exact h
set_option maxRecDepth 100000 in
set_option maxHeartbeats 4000000 in
theorem sg7_layDeal_89 {D : Nat} {mem : am_Mem} {Q : Option Value → am_Mem → Prop} {v2 : Int32} {v3 : Int32} (h : (v2 ≤ v3 → Q none mem) ∧ (¬ v2 ≤ v3 → am_J m7_layDeal (D + 1) 105 [.ref 30, .null, .int v2, .int v3, .int v3, .int ((mem 30 27) - (1 : Int32))] [] mem Q)) : am_J m7_layDeal (D + 1) 89 [.ref 30, .null, .int v2, .int v3, .null, .null] [] mem Q := by
  refine am_iload_n (pc := 89) 3 dX7_layDeal_89 rfl rfl ?_
  refine am_iload_n (pc := 90) 2 dX7_layDeal_90 rfl rfl ?_
  refine am_icmp_ge (pc := 91) 156 dX7_layDeal_91 (by decide) (fun c => ?_) (fun c => ?_)
  · replace h := h.1 c
    exact am_return rfl dX7_layDeal_156 h
  · replace h := h.2 c
    refine am_iload_n (pc := 94) 3 dX7_layDeal_94 rfl rfl ?_
    refine am_istoreE (pc := 95) (loc' := [.ref 30, .null, .int v2, .int v3, .int v3, .null]) dX7_layDeal_95 (by decide) rfl rfl ?_
    refine am_aload_n (pc := 97) 0 dX7_layDeal_97 rfl rfl ?_
    refine am_getI (pc := 98) (k := 27) cl7 sh30 (by decide) (by decide) f7_179 rfl dX7_layDeal_98 ?_
    refine am_iconst (pc := 101) (v := 1) dX7_layDeal_101 rfl ?_
    refine am_isub (pc := 102) dX7_layDeal_102 ?_
    refine am_istoreE (pc := 103) (loc' := [.ref 30, .null, .int v2, .int v3, .int v3, .int ((mem 30 27) - (1 : Int32))]) dX7_layDeal_103 (by decide) rfl rfl ?_
    exact h
set_option maxRecDepth 100000 in
set_option maxHeartbeats 4000000 in
theorem sg7_layDeal_105 {D : Nat} {mem : am_Mem} {Q : Option Value → am_Mem → Prop} {v2 : Int32} {v3 : Int32} {v4 : Int32} {v5 : Int32} (h : (v5 < 0 → am_Ci m7_isDeal D [.ref 30] mem (fun r_1 mem_1 => (r_1 = 0 → am_J m7_layDeal (D + 1) 150 [.ref 30, .null, .int v2, .int v3, .null, .null] [] mem_1 Q) ∧ (¬ r_1 = 0 → am_Cv m7_weigh D [.ref 30] mem_1 (fun mem_2 => am_J m7_layDeal (D + 1) 150 [.ref 30, .null, .int v2, .int v3, .null, .null] [] mem_2 Q)))) ∧ (¬ v5 < 0 → ¬ (mem 30 27) = 0 ∧ (vp_in v5 6 ∧ (¬ ((am_set mem 46 v5.toNatClampNeg (v4 - v4 / (mem 30 27) * (mem 30 27))) 30 27) = 0 ∧ (am_J m7_layDeal (D + 1) 105 [.ref 30, .null, .int v2, .int v3, .int (v4 / ((am_set mem 46 v5.toNatClampNeg (v4 - v4 / (mem 30 27) * (mem 30 27))) 30 27)), .int (v5 + (-1))] [] (am_set mem 46 v5.toNatClampNeg (v4 - v4 / (mem 30 27) * (mem 30 27))) Q))))) : am_J m7_layDeal (D + 1) 105 [.ref 30, .null, .int v2, .int v3, .int v4, .int v5] [] mem Q := by
  refine am_iload (pc := 105) dX7_layDeal_105 rfl ?_
  refine am_if_lt (pc := 107) 139 dX7_layDeal_107 (by decide) (fun c => ?_) (fun c => ?_)
  · replace h := h.1 c
    refine am_aload_n (pc := 139) 0 dX7_layDeal_139 rfl rfl ?_
    refine am_callV (pc := 140) m7_isDeal D 0 [] (rest := []) ok7_isDeal (by omega) rfl rfl sh30 (by decide) rfl l7_194 in7_isDeal se7_isDeal (Nat.le_of_ble_eq_true rfl) dX7_layDeal_140 ?_
    refine am_Ci.use h (fun r_1 mem_1 h => ?_)
    show am_J m7_layDeal (D + 1) 143 [.ref 30, .null, .int v2, .int v3, .int v4, .int v5] [.int r_1] mem_1 Q
    refine am_if_eq (pc := 143) 150 dX7_layDeal_143 (by decide) (fun c => ?_) (fun c => ?_)
    · replace h := h.1 c
      exact am_drop [4, 5] h
    · replace h := h.2 c
      refine am_aload_n (pc := 146) 0 dX7_layDeal_146 rfl rfl ?_
      refine am_callV (pc := 147) m7_weigh D 0 [] (rest := []) ok7_weigh (by omega) rfl rfl sh30 (by decide) rfl l7_198 in7_weigh se7_weigh (Nat.le_of_ble_eq_true rfl) dX7_layDeal_147 ?_
      refine am_Cv.use h (fun mem_2 h => ?_)
      show am_J m7_layDeal (D + 1) 150 [.ref 30, .null, .int v2, .int v3, .int v4, .int v5] [] mem_2 Q
      exact am_drop [4, 5] h
  · replace h := h.2 c
    refine am_aload_n (pc := 110) 0 dX7_layDeal_110 rfl rfl ?_
    refine am_getR (pc := 111) (k := 25) cl7 sh30 (by decide) (by decide) f7_68 rfl dX7_layDeal_111 ?_
    refine am_iload (pc := 114) dX7_layDeal_114 rfl ?_
    refine am_iload (pc := 116) dX7_layDeal_116 rfl ?_
    refine am_aload_n (pc := 118) 0 dX7_layDeal_118 rfl rfl ?_
    refine am_getI (pc := 119) (k := 27) cl7 sh30 (by decide) (by decide) f7_179 rfl dX7_layDeal_119 ?_
    refine am_irem (pc := 122) dX7_layDeal_122 h.1 ?_
    replace h := h.2
    refine am_iast (pc := 123) sh46 (by decide) h.1 dX7_layDeal_123 ?_
    replace h := h.2
    refine am_iload (pc := 124) dX7_layDeal_124 rfl ?_
    refine am_aload_n (pc := 126) 0 dX7_layDeal_126 rfl rfl ?_
    refine am_getI (pc := 127) (k := 27) cl7 sh30 (by decide) (by decide) f7_179 rfl dX7_layDeal_127 ?_
    refine am_idiv (pc := 130) dX7_layDeal_130 h.1 ?_
    replace h := h.2
    refine am_istoreE (pc := 131) (loc' := [.ref 30, .null, .int v2, .int v3, .int (v4 / ((am_set mem 46 v5.toNatClampNeg (v4 - v4 / (mem 30 27) * (mem 30 27))) 30 27)), .int v5]) dX7_layDeal_131 (by decide) rfl rfl ?_
    refine am_iincE (pc := 133) (v := -1) (loc' := [.ref 30, .null, .int v2, .int v3, .int (v4 / ((am_set mem 46 v5.toNatClampNeg (v4 - v4 / (mem 30 27) * (mem 30 27))) 30 27)), .int (v5 + (-1))]) dX7_layDeal_133 rfl rfl (by decide) rfl rfl ?_
    refine am_goto (pc := 136) 105 dX7_layDeal_136 (by decide) ?_
    exact h
set_option maxRecDepth 100000 in
set_option maxHeartbeats 4000000 in
theorem sg7_layDeal_150 {D : Nat} {mem : am_Mem} {Q : Option Value → am_Mem → Prop} {v2 : Int32} {v3 : Int32} (h : am_J m7_layDeal (D + 1) 89 [.ref 30, .null, .int v2, .int (v3 + 1), .null, .null] [] mem Q) : am_J m7_layDeal (D + 1) 150 [.ref 30, .null, .int v2, .int v3, .null, .null] [] mem Q := by
  refine am_iincE (pc := 150) (v := 1) (loc' := [.ref 30, .null, .int v2, .int (v3 + 1), .null, .null]) dX7_layDeal_150 rfl rfl (by decide) rfl rfl ?_
  refine am_goto (pc := 153) 89 dX7_layDeal_153 (by decide) ?_
  exact h
set_option maxRecDepth 100000 in
set_option maxHeartbeats 4000000 in
theorem sg7_isSet_0 {D : Nat} {mem : am_Mem} {Q : Option Value → am_Mem → Prop} {v1 : Int32} (h : am_J m7_isSet (D + 1) 4 [.ref 30, .int v1, .int 0, .int 0] [] mem Q) : am_J m7_isSet (D + 1) 0 [.ref 30, .int v1, .null, .null] [] mem Q := by
  refine am_iconst (pc := 0) (v := 0) dX7_isSet_0 rfl ?_
  refine am_istoreE_n (pc := 1) 2 (loc' := [.ref 30, .int v1, .int 0, .null]) dX7_isSet_1 rfl (by decide) rfl rfl ?_
  refine am_iconst (pc := 2) (v := 0) dX7_isSet_2 rfl ?_
  refine am_istoreE_n (pc := 3) 3 (loc' := [.ref 30, .int v1, .int 0, .int 0]) dX7_isSet_3 rfl (by decide) rfl rfl ?_
  exact h
set_option maxRecDepth 100000 in
set_option maxHeartbeats 4000000 in
theorem sg7_isSet_4 {D : Nat} {mem : am_Mem} {Q : Option Value → am_Mem → Prop} {v1 : Int32} {v2 : Int32} {v3 : Int32} (h : (8 ≤ v3 → am_Ci m7_in D [.long ((v1).toInt64), .long 0, .long ((((1 : Int32) <<< ((mem 30 2) &&& 31)) - (1 : Int32)).toInt64)] mem (fun r_1 mem_1 => (r_1 = 0 → Q (some (.int 0)) mem_1) ∧ (¬ r_1 = 0 → (7 ≤ v2 → Q (some (.int 0)) mem_1) ∧ (¬ 7 ≤ v2 → Q (some (.int 1)) mem_1)))) ∧ (¬ 8 ≤ v3 → am_J m7_isSet (D + 1) 4 [.ref 30, .int v1, .int (v2 + ((v1 >>> (v3 &&& 31)) &&& (1 : Int32))), .int (v3 + 1)] [] mem Q)) : am_J m7_isSet (D + 1) 4 [.ref 30, .int v1, .int v2, .int v3] [] mem Q := by
  refine am_iload_n (pc := 4) 3 dX7_isSet_4 rfl rfl ?_
  refine am_bipush (pc := 5) (v := 8) dX7_isSet_5 rfl ?_
  refine am_icmp_ge (pc := 7) 24 dX7_isSet_7 (by decide) (fun c => ?_) (fun c => ?_)
  · replace h := h.1 c
    refine am_iload_n (pc := 24) 1 dX7_isSet_24 rfl rfl ?_
    refine am_i2l (pc := 25) dX7_isSet_25 ?_
    refine am_lconst (pc := 26) (v := 0) dX7_isSet_26 rfl ?_
    refine am_iconst (pc := 27) (v := 1) dX7_isSet_27 rfl ?_
    refine am_aload_n (pc := 28) 0 dX7_isSet_28 rfl rfl ?_
    refine am_getI (pc := 29) (k := 2) cl7 sh30 (by decide) (by decide) f7_74 rfl dX7_isSet_29 ?_
    refine am_ishl (pc := 32) dX7_isSet_32 ?_
    refine am_iconst (pc := 33) (v := 1) dX7_isSet_33 rfl ?_
    refine am_isub (pc := 34) dX7_isSet_34 ?_
    refine am_i2l (pc := 35) dX7_isSet_35 ?_
    refine am_callS (pc := 36) m7_in D 3 [.long ((v1).toInt64), .long 0, .long ((((1 : Int32) <<< ((mem 30 2) &&& 31)) - (1 : Int32)).toInt64)] (rest := []) ok7_in (by omega) rfl rfl l7_77 st7_in (Nat.le_of_ble_eq_true rfl) dX7_isSet_36 ?_
    refine am_Ci.use h (fun r_1 mem_1 h => ?_)
    show am_J m7_isSet (D + 1) 39 [.ref 30, .int v1, .int v2, .int v3] [.int r_1] mem_1 Q
    refine am_if_eq (pc := 39) 52 dX7_isSet_39 (by decide) (fun c => ?_) (fun c => ?_)
    · replace h := h.1 c
      refine am_iconst (pc := 52) (v := 0) dX7_isSet_52 rfl ?_
      exact am_zreturn rfl (by decide) dX7_isSet_53 h
    · replace h := h.2 c
      refine am_iload_n (pc := 42) 2 dX7_isSet_42 rfl rfl ?_
      refine am_bipush (pc := 43) (v := 7) dX7_isSet_43 rfl ?_
      refine am_icmp_ge (pc := 45) 52 dX7_isSet_45 (by decide) (fun c => ?_) (fun c => ?_)
      · replace h := h.1 c
        refine am_iconst (pc := 52) (v := 0) dX7_isSet_52 rfl ?_
        exact am_zreturn rfl (by decide) dX7_isSet_53 h
      · replace h := h.2 c
        refine am_iconst (pc := 48) (v := 1) dX7_isSet_48 rfl ?_
        refine am_goto (pc := 49) 53 dX7_isSet_49 (by decide) ?_
        exact am_zreturn rfl (by decide) dX7_isSet_53 h
  · replace h := h.2 c
    refine am_iload_n (pc := 10) 2 dX7_isSet_10 rfl rfl ?_
    refine am_iload_n (pc := 11) 1 dX7_isSet_11 rfl rfl ?_
    refine am_iload_n (pc := 12) 3 dX7_isSet_12 rfl rfl ?_
    refine am_ishr (pc := 13) dX7_isSet_13 ?_
    refine am_iconst (pc := 14) (v := 1) dX7_isSet_14 rfl ?_
    refine am_iand (pc := 15) dX7_isSet_15 ?_
    refine am_iadd (pc := 16) dX7_isSet_16 ?_
    refine am_istoreE_n (pc := 17) 2 (loc' := [.ref 30, .int v1, .int (v2 + ((v1 >>> (v3 &&& 31)) &&& (1 : Int32))), .int v3]) dX7_isSet_17 rfl (by decide) rfl rfl ?_
    refine am_iincE (pc := 18) (v := 1) (loc' := [.ref 30, .int v1, .int (v2 + ((v1 >>> (v3 &&& 31)) &&& (1 : Int32))), .int (v3 + 1)]) dX7_isSet_18 rfl rfl (by decide) rfl rfl ?_
    refine am_goto (pc := 21) 4 dX7_isSet_21 (by decide) ?_
    exact h
set_option maxRecDepth 100000 in
set_option maxHeartbeats 4000000 in
theorem sg7_crosses_0 {D : Nat} {mem : am_Mem} {Q : Option Value → am_Mem → Prop} {v1 : Int32} (h : am_Ci m7_isSet D [.ref 30, .int v1] mem (fun r_1 mem_1 => (¬ r_1 = 0 → am_Cv m7_layDeal D [.ref 30, .int v1] mem_1 (fun mem_2 => Q (some (.int (mem_2 30 28))) mem_2)) ∧ (r_1 = 0 → Q (some (.int (-2))) mem_1))) : am_J m7_crosses (D + 1) 0 [.ref 30, .int v1] [] mem Q := by
  refine am_aload_n (pc := 0) 0 dX7_crosses_0 rfl rfl ?_
  refine am_iload_n (pc := 1) 1 dX7_crosses_1 rfl rfl ?_
  refine am_callV (pc := 2) m7_isSet D 1 [.int v1] (rest := []) ok7_isSet (by omega) rfl rfl sh30 (by decide) rfl l7_201 in7_isSet se7_isSet (Nat.le_of_ble_eq_true rfl) dX7_crosses_2 ?_
  refine am_Ci.use h (fun r_1 mem_1 h => ?_)
  show am_J m7_crosses (D + 1) 5 [.ref 30, .int v1] [.int r_1] mem_1 Q
  refine am_if_ne (pc := 5) 11 dX7_crosses_5 (by decide) (fun c => ?_) (fun c => ?_)
  · replace h := h.1 c
    refine am_aload_n (pc := 11) 0 dX7_crosses_11 rfl rfl ?_
    refine am_iload_n (pc := 12) 1 dX7_crosses_12 rfl rfl ?_
    refine am_callV (pc := 13) m7_layDeal D 1 [.int v1] (rest := []) ok7_layDeal (by omega) rfl rfl sh30 (by decide) rfl l7_204 in7_layDeal se7_layDeal (Nat.le_of_ble_eq_true rfl) dX7_crosses_13 ?_
    refine am_Cv.use h (fun mem_2 h => ?_)
    show am_J m7_crosses (D + 1) 16 [.ref 30, .int v1] [] mem_2 Q
    refine am_aload_n (pc := 16) 0 dX7_crosses_16 rfl rfl ?_
    refine am_getI (pc := 17) (k := 28) cl7 sh30 (by decide) (by decide) f7_188 rfl dX7_crosses_17 ?_
    exact am_ireturn rfl dX7_crosses_20 h
  · replace h := h.2 c
    refine am_bipush (pc := 8) (v := -2) dX7_crosses_8 rfl ?_
    exact am_ireturn rfl dX7_crosses_10 h
set_option maxRecDepth 100000 in
set_option maxHeartbeats 4000000 in
theorem sg7_length_0 {D : Nat} {mem : am_Mem} {Q : Option Value → am_Mem → Prop} {v1 : Int32} (h : am_Ci m7_isSet D [.ref 30, .int v1] mem (fun r_1 mem_1 => (¬ r_1 = 0 → am_Cv m7_layDeal D [.ref 30, .int v1] mem_1 (fun mem_2 => Q (some (.int (mem_2 30 29))) mem_2)) ∧ (r_1 = 0 → Q (some (.int (-2))) mem_1))) : am_J m7_length (D + 1) 0 [.ref 30, .int v1] [] mem Q := by
  refine am_aload_n (pc := 0) 0 dX7_length_0 rfl rfl ?_
  refine am_iload_n (pc := 1) 1 dX7_length_1 rfl rfl ?_
  refine am_callV (pc := 2) m7_isSet D 1 [.int v1] (rest := []) ok7_isSet (by omega) rfl rfl sh30 (by decide) rfl l7_201 in7_isSet se7_isSet (Nat.le_of_ble_eq_true rfl) dX7_length_2 ?_
  refine am_Ci.use h (fun r_1 mem_1 h => ?_)
  show am_J m7_length (D + 1) 5 [.ref 30, .int v1] [.int r_1] mem_1 Q
  refine am_if_ne (pc := 5) 11 dX7_length_5 (by decide) (fun c => ?_) (fun c => ?_)
  · replace h := h.1 c
    refine am_aload_n (pc := 11) 0 dX7_length_11 rfl rfl ?_
    refine am_iload_n (pc := 12) 1 dX7_length_12 rfl rfl ?_
    refine am_callV (pc := 13) m7_layDeal D 1 [.int v1] (rest := []) ok7_layDeal (by omega) rfl rfl sh30 (by decide) rfl l7_204 in7_layDeal se7_layDeal (Nat.le_of_ble_eq_true rfl) dX7_length_13 ?_
    refine am_Cv.use h (fun mem_2 h => ?_)
    show am_J m7_length (D + 1) 16 [.ref 30, .int v1] [] mem_2 Q
    refine am_aload_n (pc := 16) 0 dX7_length_16 rfl rfl ?_
    refine am_getI (pc := 17) (k := 29) cl7 sh30 (by decide) (by decide) f7_191 rfl dX7_length_17 ?_
    exact am_ireturn rfl dX7_length_20 h
  · replace h := h.2 c
    refine am_bipush (pc := 8) (v := -2) dX7_length_8 rfl ?_
    exact am_ireturn rfl dX7_length_10 h
set_option maxRecDepth 100000 in
set_option maxHeartbeats 4000000 in
theorem sg7_place_0 {D : Nat} {mem : am_Mem} {Q : Option Value → am_Mem → Prop} {v1 : Int32} {v2 : Int32} (h : am_Ci m7_isSet D [.ref 30, .int v1] mem (fun r_1 mem_1 => (¬ r_1 = 0 → am_Ci m7_isSite D [.ref 30, .int v2] mem_1 (fun r_2 mem_2 => (r_2 = 0 → Q (some (.int (-1))) mem_2) ∧ (¬ r_2 = 0 → (¬ ((v1 >>> (v2 &&& 31)) &&& (1 : Int32)) = 0 → am_Cv m7_layDeal D [.ref 30, .int v1] mem_2 (fun mem_3 => am_J m7_place (D + 1) 36 [.ref 30, .null, .int v2, .int 0] [] mem_3 Q)) ∧ (((v1 >>> (v2 &&& 31)) &&& (1 : Int32)) = 0 → Q (some (.int (-1))) mem_2)))) ∧ (r_1 = 0 → Q (some (.int (-2))) mem_1))) : am_J m7_place (D + 1) 0 [.ref 30, .int v1, .int v2, .null] [] mem Q := by
  refine am_aload_n (pc := 0) 0 dX7_place_0 rfl rfl ?_
  refine am_iload_n (pc := 1) 1 dX7_place_1 rfl rfl ?_
  refine am_callV (pc := 2) m7_isSet D 1 [.int v1] (rest := []) ok7_isSet (by omega) rfl rfl sh30 (by decide) rfl l7_201 in7_isSet se7_isSet (Nat.le_of_ble_eq_true rfl) dX7_place_2 ?_
  refine am_Ci.use h (fun r_1 mem_1 h => ?_)
  show am_J m7_place (D + 1) 5 [.ref 30, .int v1, .int v2, .null] [.int r_1] mem_1 Q
  refine am_if_ne (pc := 5) 11 dX7_place_5 (by decide) (fun c => ?_) (fun c => ?_)
  · replace h := h.1 c
    refine am_aload_n (pc := 11) 0 dX7_place_11 rfl rfl ?_
    refine am_iload_n (pc := 12) 2 dX7_place_12 rfl rfl ?_
    refine am_callV (pc := 13) m7_isSite D 1 [.int v2] (rest := []) ok7_isSite (by omega) rfl rfl sh30 (by decide) rfl l7_93 in7_isSite se7_isSite (Nat.le_of_ble_eq_true rfl) dX7_place_13 ?_
    refine am_Ci.use h (fun r_2 mem_2 h => ?_)
    show am_J m7_place (D + 1) 16 [.ref 30, .int v1, .int v2, .null] [.int r_2] mem_2 Q
    refine am_if_eq (pc := 16) 27 dX7_place_16 (by decide) (fun c => ?_) (fun c => ?_)
    · replace h := h.1 c
      refine am_iconst (pc := 27) (v := -1) dX7_place_27 rfl ?_
      exact am_ireturn rfl dX7_place_28 h
    · replace h := h.2 c
      refine am_iload_n (pc := 19) 1 dX7_place_19 rfl rfl ?_
      refine am_iload_n (pc := 20) 2 dX7_place_20 rfl rfl ?_
      refine am_ishr (pc := 21) dX7_place_21 ?_
      refine am_iconst (pc := 22) (v := 1) dX7_place_22 rfl ?_
      refine am_iand (pc := 23) dX7_place_23 ?_
      refine am_if_ne (pc := 24) 29 dX7_place_24 (by decide) (fun c => ?_) (fun c => ?_)
      · replace h := h.1 c
        refine am_aload_n (pc := 29) 0 dX7_place_29 rfl rfl ?_
        refine am_iload_n (pc := 30) 1 dX7_place_30 rfl rfl ?_
        refine am_callV (pc := 31) m7_layDeal D 1 [.int v1] (rest := []) ok7_layDeal (by omega) rfl rfl sh30 (by decide) rfl l7_204 in7_layDeal se7_layDeal (Nat.le_of_ble_eq_true rfl) dX7_place_31 ?_
        refine am_Cv.use h (fun mem_3 h => ?_)
        show am_J m7_place (D + 1) 34 [.ref 30, .int v1, .int v2, .null] [] mem_3 Q
        refine am_iconst (pc := 34) (v := 0) dX7_place_34 rfl ?_
        refine am_istoreE_n (pc := 35) 3 (loc' := [.ref 30, .int v1, .int v2, .int 0]) dX7_place_35 rfl (by decide) rfl rfl ?_
        exact am_drop [1] h
      · replace h := h.2 c
        refine am_iconst (pc := 27) (v := -1) dX7_place_27 rfl ?_
        exact am_ireturn rfl dX7_place_28 h
  · replace h := h.2 c
    refine am_bipush (pc := 8) (v := -2) dX7_place_8 rfl ?_
    exact am_ireturn rfl dX7_place_10 h
set_option maxRecDepth 100000 in
set_option maxHeartbeats 4000000 in
theorem sg7_place_36 {D : Nat} {mem : am_Mem} {Q : Option Value → am_Mem → Prop} {v2 : Int32} {v3 : Int32} (h : vp_in v3 6 ∧ (((mem 45 v3.toNatClampNeg) = v2 → vp_in v3 6 ∧ (Q (some (.int (mem 47 v3.toNatClampNeg))) mem)) ∧ (¬ (mem 45 v3.toNatClampNeg) = v2 → am_J m7_place (D + 1) 36 [.ref 30, .null, .int v2, .int (v3 + 1)] [] mem Q))) : am_J m7_place (D + 1) 36 [.ref 30, .null, .int v2, .int v3] [] mem Q := by
  refine am_aload_n (pc := 36) 0 dX7_place_36 rfl rfl ?_
  refine am_getR (pc := 37) (k := 24) cl7 sh30 (by decide) (by decide) f7_65 rfl dX7_place_37 ?_
  refine am_iload_n (pc := 40) 3 dX7_place_40 rfl rfl ?_
  refine am_iald (pc := 41) sh45 (by decide) h.1 dX7_place_41 ?_
  replace h := h.2
  refine am_iload_n (pc := 42) 2 dX7_place_42 rfl rfl ?_
  refine am_icmp_eq (pc := 43) 52 dX7_place_43 (by decide) (fun c => ?_) (fun c => ?_)
  · replace h := h.1 c
    refine am_aload_n (pc := 52) 0 dX7_place_52 rfl rfl ?_
    refine am_getR (pc := 53) (k := 26) cl7 sh30 (by decide) (by decide) f7_71 rfl dX7_place_53 ?_
    refine am_iload_n (pc := 56) 3 dX7_place_56 rfl rfl ?_
    refine am_iald (pc := 57) sh47 (by decide) h.1 dX7_place_57 ?_
    replace h := h.2
    exact am_ireturn rfl dX7_place_58 h
  · replace h := h.2 c
    refine am_iincE (pc := 46) (v := 1) (loc' := [.ref 30, .null, .int v2, .int (v3 + 1)]) dX7_place_46 rfl rfl (by decide) rfl rfl ?_
    refine am_goto (pc := 49) 36 dX7_place_49 (by decide) ?_
    exact h
set_option maxRecDepth 100000 in
set_option maxHeartbeats 4000000 in
theorem sg7_cross_0 {D : Nat} {mem : am_Mem} {Q : Option Value → am_Mem → Prop} {v1 : Int32} {v2 : Int32} {v3 : Int32} {v4 : Int32} (h : am_Ci m7_isSite D [.ref 30, .int v1] mem (fun r_1 mem_1 => (r_1 = 0 → Q (some (.int (-1))) mem_1) ∧ (¬ r_1 = 0 → am_Ci m7_isSite D [.ref 30, .int v3] mem_1 (fun r_2 mem_2 => (¬ r_2 = 0 → am_Ci m7_in D [.long ((v2).toInt64), .long 0, .long ((mem_2 30 1).toInt64)] mem_2 (fun r_3 mem_3 => (r_3 = 0 → Q (some (.int (-2))) mem_3) ∧ (¬ r_3 = 0 → am_Ci m7_in D [.long ((v4).toInt64), .long 0, .long ((mem_3 30 1).toInt64)] mem_3 (fun r_4 mem_4 => (¬ r_4 = 0 → (¬ v1 = v3 → am_Ci m7_lineCrosses D [.ref 30, .int v1, .int v2, .int v3, .int v4] mem_4 (fun r_5 mem_5 => (r_5 = 0 → Q (some (.int 0)) mem_5) ∧ (¬ r_5 = 0 → Q (some (.int 1)) mem_5))) ∧ (v1 = v3 → Q (some (.int (-3))) mem_4)) ∧ (r_4 = 0 → Q (some (.int (-2))) mem_4))))) ∧ (r_2 = 0 → Q (some (.int (-1))) mem_2))))) : am_J m7_cross (D + 1) 0 [.ref 30, .int v1, .int v2, .int v3, .int v4] [] mem Q := by
  refine am_aload_n (pc := 0) 0 dX7_cross_0 rfl rfl ?_
  refine am_iload_n (pc := 1) 1 dX7_cross_1 rfl rfl ?_
  refine am_callV (pc := 2) m7_isSite D 1 [.int v1] (rest := []) ok7_isSite (by omega) rfl rfl sh30 (by decide) rfl l7_93 in7_isSite se7_isSite (Nat.le_of_ble_eq_true rfl) dX7_cross_2 ?_
  refine am_Ci.use h (fun r_1 mem_1 h => ?_)
  show am_J m7_cross (D + 1) 5 [.ref 30, .int v1, .int v2, .int v3, .int v4] [.int r_1] mem_1 Q
  refine am_if_eq (pc := 5) 16 dX7_cross_5 (by decide) (fun c => ?_) (fun c => ?_)
  · replace h := h.1 c
    refine am_iconst (pc := 16) (v := -1) dX7_cross_16 rfl ?_
    exact am_ireturn rfl dX7_cross_17 h
  · replace h := h.2 c
    refine am_aload_n (pc := 8) 0 dX7_cross_8 rfl rfl ?_
    refine am_iload_n (pc := 9) 3 dX7_cross_9 rfl rfl ?_
    refine am_callV (pc := 10) m7_isSite D 1 [.int v3] (rest := []) ok7_isSite (by omega) rfl rfl sh30 (by decide) rfl l7_93 in7_isSite se7_isSite (Nat.le_of_ble_eq_true rfl) dX7_cross_10 ?_
    refine am_Ci.use h (fun r_2 mem_2 h => ?_)
    show am_J m7_cross (D + 1) 13 [.ref 30, .int v1, .int v2, .int v3, .int v4] [.int r_2] mem_2 Q
    refine am_if_ne (pc := 13) 18 dX7_cross_13 (by decide) (fun c => ?_) (fun c => ?_)
    · replace h := h.1 c
      refine am_iload_n (pc := 18) 2 dX7_cross_18 rfl rfl ?_
      refine am_i2l (pc := 19) dX7_cross_19 ?_
      refine am_lconst (pc := 20) (v := 0) dX7_cross_20 rfl ?_
      refine am_aload_n (pc := 21) 0 dX7_cross_21 rfl rfl ?_
      refine am_getI (pc := 22) (k := 1) cl7 sh30 (by decide) (by decide) f7_13 rfl dX7_cross_22 ?_
      refine am_i2l (pc := 25) dX7_cross_25 ?_
      refine am_callS (pc := 26) m7_in D 3 [.long ((v2).toInt64), .long 0, .long ((mem_2 30 1).toInt64)] (rest := []) ok7_in (by omega) rfl rfl l7_77 st7_in (Nat.le_of_ble_eq_true rfl) dX7_cross_26 ?_
      refine am_Ci.use h (fun r_3 mem_3 h => ?_)
      show am_J m7_cross (D + 1) 29 [.ref 30, .int v1, .int v2, .int v3, .int v4] [.int r_3] mem_3 Q
      refine am_if_eq (pc := 29) 47 dX7_cross_29 (by decide) (fun c => ?_) (fun c => ?_)
      · replace h := h.1 c
        refine am_bipush (pc := 47) (v := -2) dX7_cross_47 rfl ?_
        exact am_ireturn rfl dX7_cross_49 h
      · replace h := h.2 c
        refine am_iload (pc := 32) dX7_cross_32 rfl ?_
        refine am_i2l (pc := 34) dX7_cross_34 ?_
        refine am_lconst (pc := 35) (v := 0) dX7_cross_35 rfl ?_
        refine am_aload_n (pc := 36) 0 dX7_cross_36 rfl rfl ?_
        refine am_getI (pc := 37) (k := 1) cl7 sh30 (by decide) (by decide) f7_13 rfl dX7_cross_37 ?_
        refine am_i2l (pc := 40) dX7_cross_40 ?_
        refine am_callS (pc := 41) m7_in D 3 [.long ((v4).toInt64), .long 0, .long ((mem_3 30 1).toInt64)] (rest := []) ok7_in (by omega) rfl rfl l7_77 st7_in (Nat.le_of_ble_eq_true rfl) dX7_cross_41 ?_
        refine am_Ci.use h (fun r_4 mem_4 h => ?_)
        show am_J m7_cross (D + 1) 44 [.ref 30, .int v1, .int v2, .int v3, .int v4] [.int r_4] mem_4 Q
        refine am_if_ne (pc := 44) 50 dX7_cross_44 (by decide) (fun c => ?_) (fun c => ?_)
        · replace h := h.1 c
          refine am_iload_n (pc := 50) 1 dX7_cross_50 rfl rfl ?_
          refine am_iload_n (pc := 51) 3 dX7_cross_51 rfl rfl ?_
          refine am_icmp_ne (pc := 52) 60 dX7_cross_52 (by decide) (fun c => ?_) (fun c => ?_)
          · replace h := h.1 c
            refine am_aload_n (pc := 60) 0 dX7_cross_60 rfl rfl ?_
            refine am_iload_n (pc := 61) 1 dX7_cross_61 rfl rfl ?_
            refine am_iload_n (pc := 62) 2 dX7_cross_62 rfl rfl ?_
            refine am_iload_n (pc := 63) 3 dX7_cross_63 rfl rfl ?_
            refine am_iload (pc := 64) dX7_cross_64 rfl ?_
            refine am_callV (pc := 66) m7_lineCrosses D 4 [.int v1, .int v2, .int v3, .int v4] (rest := []) ok7_lineCrosses (by omega) rfl rfl sh30 (by decide) rfl l7_185 in7_lineCrosses se7_lineCrosses (Nat.le_of_ble_eq_true rfl) dX7_cross_66 ?_
            refine am_Ci.use h (fun r_5 mem_5 h => ?_)
            show am_J m7_cross (D + 1) 69 [.ref 30, .int v1, .int v2, .int v3, .int v4] [.int r_5] mem_5 Q
            refine am_if_eq (pc := 69) 76 dX7_cross_69 (by decide) (fun c => ?_) (fun c => ?_)
            · replace h := h.1 c
              refine am_iconst (pc := 76) (v := 0) dX7_cross_76 rfl ?_
              exact am_ireturn rfl dX7_cross_77 h
            · replace h := h.2 c
              refine am_iconst (pc := 72) (v := 1) dX7_cross_72 rfl ?_
              refine am_goto (pc := 73) 77 dX7_cross_73 (by decide) ?_
              exact am_ireturn rfl dX7_cross_77 h
          · replace h := h.2 c
            refine am_bipush (pc := 55) (v := -3) dX7_cross_55 rfl ?_
            refine am_goto (pc := 57) 77 dX7_cross_57 (by decide) ?_
            exact am_ireturn rfl dX7_cross_77 h
        · replace h := h.2 c
          refine am_bipush (pc := 47) (v := -2) dX7_cross_47 rfl ?_
          exact am_ireturn rfl dX7_cross_49 h
    · replace h := h.2 c
      refine am_iconst (pc := 16) (v := -1) dX7_cross_16 rfl ?_
      exact am_ireturn rfl dX7_cross_17 h
set_option maxRecDepth 100000 in
set_option maxHeartbeats 4000000 in
theorem sg7_count_0 {D : Nat} {mem : am_Mem} {Q : Option Value → am_Mem → Prop} {v1 : Int32} (h : am_Cv m7_layBits D [.ref 30] mem (fun mem_1 => am_J m7_count (D + 1) 11 [.ref 30, .int v1, .int 0, .int 0, .int 0, .null] [] mem_1 Q)) : am_J m7_count (D + 1) 0 [.ref 30, .int v1, .null, .null, .null, .null] [] mem Q := by
  refine am_aload_n (pc := 0) 0 dX7_count_0 rfl rfl ?_
  refine am_callV (pc := 1) m7_layBits D 0 [] (rest := []) ok7_layBits (by omega) rfl rfl sh30 (by decide) rfl l7_130 in7_layBits se7_layBits (Nat.le_of_ble_eq_true rfl) dX7_count_1 ?_
  refine am_Cv.use h (fun mem_1 h => ?_)
  show am_J m7_count (D + 1) 4 [.ref 30, .int v1, .null, .null, .null, .null] [] mem_1 Q
  refine am_iconst (pc := 4) (v := 0) dX7_count_4 rfl ?_
  refine am_istoreE_n (pc := 5) 2 (loc' := [.ref 30, .int v1, .int 0, .null, .null, .null]) dX7_count_5 rfl (by decide) rfl rfl ?_
  refine am_iconst (pc := 6) (v := 0) dX7_count_6 rfl ?_
  refine am_istoreE_n (pc := 7) 3 (loc' := [.ref 30, .int v1, .int 0, .int 0, .null, .null]) dX7_count_7 rfl (by decide) rfl rfl ?_
  refine am_iconst (pc := 8) (v := 0) dX7_count_8 rfl ?_
  refine am_istoreE (pc := 9) (loc' := [.ref 30, .int v1, .int 0, .int 0, .int 0, .null]) dX7_count_9 (by decide) rfl rfl ?_
  exact h
set_option maxRecDepth 100000 in
set_option maxHeartbeats 4000000 in
theorem sg7_count_11 {D : Nat} {mem : am_Mem} {Q : Option Value → am_Mem → Prop} {v1 : Int32} {v2 : Int32} {v3 : Int32} {v4 : Int32} (h : (32 ≤ v4 → (v1.toInt = 0 → Q (some (.int (mem 30 2))) mem) ∧ (v1.toInt = 1 → Q (some (.int (mem 30 0))) mem) ∧ (v1.toInt = 2 → Q (some (.int (mem 30 1))) mem) ∧ (v1.toInt = 3 → Q (some (.int v2)) mem) ∧ (v1.toInt = 4 → Q (some (.int v3)) mem) ∧ ((v1.toInt < 0 ∨ 4 < v1.toInt) → Q (some (.int (-2))) mem)) ∧ (¬ 32 ≤ v4 → am_J m7_count (D + 1) 33 [.ref 30, .int v1, .int (v2 + (((mem 30 16) >>> (v4 &&& 31)) &&& (1 : Int32))), .int v3, .int v4, .int 0] [] mem Q)) : am_J m7_count (D + 1) 11 [.ref 30, .int v1, .int v2, .int v3, .int v4, .null] [] mem Q := by
  refine am_iload (pc := 11) dX7_count_11 rfl ?_
  refine am_bipush (pc := 13) (v := 32) dX7_count_13 rfl ?_
  refine am_icmp_ge (pc := 15) 88 dX7_count_15 (by decide) (fun c => ?_) (fun c => ?_)
  · replace h := h.1 c
    refine am_iload_n (pc := 88) 1 dX7_count_88 rfl rfl ?_
    refine am_table (pc := 89) dX7_count_89 143 (by decide) [124, 129, 134, 139, 141] (by decide) (by decide) (fun j t ht hx => ?_) (fun hx => ?_)
    · match j, ht with
      | 0, ht =>
        cases ht
        replace h := h.1 hx
        refine am_aload_n (pc := 124) 0 dX7_count_124 rfl rfl ?_
        refine am_getI (pc := 125) (k := 2) cl7 sh30 (by decide) (by decide) f7_74 rfl dX7_count_125 ?_
        exact am_ireturn rfl dX7_count_128 h
      | 1, ht =>
        cases ht
        replace h := h.2.1 hx
        refine am_aload_n (pc := 129) 0 dX7_count_129 rfl rfl ?_
        refine am_getI (pc := 130) (k := 0) cl7 sh30 (by decide) (by decide) f7_7 rfl dX7_count_130 ?_
        exact am_ireturn rfl dX7_count_133 h
      | 2, ht =>
        cases ht
        replace h := h.2.2.1 hx
        refine am_aload_n (pc := 134) 0 dX7_count_134 rfl rfl ?_
        refine am_getI (pc := 135) (k := 1) cl7 sh30 (by decide) (by decide) f7_13 rfl dX7_count_135 ?_
        exact am_ireturn rfl dX7_count_138 h
      | 3, ht =>
        cases ht
        replace h := h.2.2.2.1 hx
        refine am_iload_n (pc := 139) 2 dX7_count_139 rfl rfl ?_
        exact am_ireturn rfl dX7_count_140 h
      | 4, ht =>
        cases ht
        replace h := h.2.2.2.2.1 hx
        refine am_iload_n (pc := 141) 3 dX7_count_141 rfl rfl ?_
        exact am_ireturn rfl dX7_count_142 h
      | j + 5, ht => simp at ht
    · replace h := h.2.2.2.2.2 hx
      refine am_bipush (pc := 143) (v := -2) dX7_count_143 rfl ?_
      exact am_ireturn rfl dX7_count_145 h
  · replace h := h.2 c
    refine am_iload_n (pc := 18) 2 dX7_count_18 rfl rfl ?_
    refine am_aload_n (pc := 19) 0 dX7_count_19 rfl rfl ?_
    refine am_getI (pc := 20) (k := 16) cl7 sh30 (by decide) (by decide) f7_127 rfl dX7_count_20 ?_
    refine am_iload (pc := 23) dX7_count_23 rfl ?_
    refine am_ishr (pc := 25) dX7_count_25 ?_
    refine am_iconst (pc := 26) (v := 1) dX7_count_26 rfl ?_
    refine am_iand (pc := 27) dX7_count_27 ?_
    refine am_iadd (pc := 28) dX7_count_28 ?_
    refine am_istoreE_n (pc := 29) 2 (loc' := [.ref 30, .int v1, .int (v2 + (((mem 30 16) >>> (v4 &&& 31)) &&& (1 : Int32))), .int v3, .int v4, .null]) dX7_count_29 rfl (by decide) rfl rfl ?_
    refine am_iconst (pc := 30) (v := 0) dX7_count_30 rfl ?_
    refine am_istoreE (pc := 31) (loc' := [.ref 30, .int v1, .int (v2 + (((mem 30 16) >>> (v4 &&& 31)) &&& (1 : Int32))), .int v3, .int v4, .int 0]) dX7_count_31 (by decide) rfl rfl ?_
    exact h
set_option maxRecDepth 100000 in
set_option maxHeartbeats 4000000 in
theorem sg7_count_33 {D : Nat} {mem : am_Mem} {Q : Option Value → am_Mem → Prop} {v1 : Int32} {v2 : Int32} {v3 : Int32} {v4 : Int32} {v5 : Int32} (h : (v4 ≤ v5 → am_J m7_count (D + 1) 82 [.ref 30, .int v1, .int v2, .int v3, .int v4, .null] [] mem Q) ∧ (¬ v4 ≤ v5 → (¬ (((mem 30 16) >>> (v4 &&& 31)) &&& (1 : Int32)) = 1 → am_J m7_count (D + 1) 82 [.ref 30, .int v1, .int v2, .int v3, .int v4, .null] [] mem Q) ∧ ((((mem 30 16) >>> (v4 &&& 31)) &&& (1 : Int32)) = 1 → vp_in v4 32 ∧ (am_J m7_count (D + 1) 33 [.ref 30, .int v1, .int v2, .int (v3 + ((((mem 30 16) >>> (v5 &&& 31)) &&& (1 : Int32)) &&& ((mem 40 v4.toNatClampNeg) >>> (v5 &&& 31)))), .int v4, .int (v5 + 1)] [] mem Q)))) : am_J m7_count (D + 1) 33 [.ref 30, .int v1, .int v2, .int v3, .int v4, .int v5] [] mem Q := by
  refine am_iload (pc := 33) dX7_count_33 rfl ?_
  refine am_iload (pc := 35) dX7_count_35 rfl ?_
  refine am_icmp_ge (pc := 37) 82 dX7_count_37 (by decide) (fun c => ?_) (fun c => ?_)
  · replace h := h.1 c
    exact am_drop [5] h
  · replace h := h.2 c
    refine am_aload_n (pc := 40) 0 dX7_count_40 rfl rfl ?_
    refine am_getI (pc := 41) (k := 16) cl7 sh30 (by decide) (by decide) f7_127 rfl dX7_count_41 ?_
    refine am_iload (pc := 44) dX7_count_44 rfl ?_
    refine am_ishr (pc := 46) dX7_count_46 ?_
    refine am_iconst (pc := 47) (v := 1) dX7_count_47 rfl ?_
    refine am_iand (pc := 48) dX7_count_48 ?_
    refine am_iconst (pc := 49) (v := 1) dX7_count_49 rfl ?_
    refine am_icmp_ne (pc := 50) 82 dX7_count_50 (by decide) (fun c => ?_) (fun c => ?_)
    · replace h := h.1 c
      exact am_drop [5] h
    · replace h := h.2 c
      refine am_iload_n (pc := 53) 3 dX7_count_53 rfl rfl ?_
      refine am_aload_n (pc := 54) 0 dX7_count_54 rfl rfl ?_
      refine am_getI (pc := 55) (k := 16) cl7 sh30 (by decide) (by decide) f7_127 rfl dX7_count_55 ?_
      refine am_iload (pc := 58) dX7_count_58 rfl ?_
      refine am_ishr (pc := 60) dX7_count_60 ?_
      refine am_iconst (pc := 61) (v := 1) dX7_count_61 rfl ?_
      refine am_iand (pc := 62) dX7_count_62 ?_
      refine am_aload_n (pc := 63) 0 dX7_count_63 rfl rfl ?_
      refine am_getR (pc := 64) (k := 17) cl7 sh30 (by decide) (by decide) f7_50 rfl dX7_count_64 ?_
      refine am_iload (pc := 67) dX7_count_67 rfl ?_
      refine am_iald (pc := 69) sh40 (by decide) h.1 dX7_count_69 ?_
      replace h := h.2
      refine am_iload (pc := 70) dX7_count_70 rfl ?_
      refine am_ishr (pc := 72) dX7_count_72 ?_
      refine am_iand (pc := 73) dX7_count_73 ?_
      refine am_iadd (pc := 74) dX7_count_74 ?_
      refine am_istoreE_n (pc := 75) 3 (loc' := [.ref 30, .int v1, .int v2, .int (v3 + ((((mem 30 16) >>> (v5 &&& 31)) &&& (1 : Int32)) &&& ((mem 40 v4.toNatClampNeg) >>> (v5 &&& 31)))), .int v4, .int v5]) dX7_count_75 rfl (by decide) rfl rfl ?_
      refine am_iincE (pc := 76) (v := 1) (loc' := [.ref 30, .int v1, .int v2, .int (v3 + ((((mem 30 16) >>> (v5 &&& 31)) &&& (1 : Int32)) &&& ((mem 40 v4.toNatClampNeg) >>> (v5 &&& 31)))), .int v4, .int (v5 + 1)]) dX7_count_76 rfl rfl (by decide) rfl rfl ?_
      refine am_goto (pc := 79) 33 dX7_count_79 (by decide) ?_
      exact h
set_option maxRecDepth 100000 in
set_option maxHeartbeats 4000000 in
theorem sg7_count_82 {D : Nat} {mem : am_Mem} {Q : Option Value → am_Mem → Prop} {v1 : Int32} {v2 : Int32} {v3 : Int32} {v4 : Int32} (h : am_J m7_count (D + 1) 11 [.ref 30, .int v1, .int v2, .int v3, .int (v4 + 1), .null] [] mem Q) : am_J m7_count (D + 1) 82 [.ref 30, .int v1, .int v2, .int v3, .int v4, .null] [] mem Q := by
  refine am_iincE (pc := 82) (v := 1) (loc' := [.ref 30, .int v1, .int v2, .int v3, .int (v4 + 1), .null]) dX7_count_82 rfl rfl (by decide) rfl rfl ?_
  refine am_goto (pc := 85) 11 dX7_count_85 (by decide) ?_
  exact h
