/-! THE LAW: its 32 cases and its loop (the cases printed by law.py) -/
def ML (L : Nat) (xs : Nat → Int32) : am_M := (yL_law, cL_law, 4, some .boolean, some (L, xs))
abbrev lwl (i : Nat) : List Value := [.ref 100, .ref 0, .ref 30, .int (nI i)]
theorem ls_ld {L : Nat} {xs : Nat → Int32} {i pc d : Nat} {st : List Value} {mem : am_Mem} {Q : Option Value → am_Mem → Prop} (k : Nat) {n : Int} (hk : k ≤ 5) (hL : L ≤ 3072) (hi : i + 6 ≤ L) (d0 : decode cL_law pc = .ok (.aload_n 0, 1)) (d1 : decode cL_law (pc + 1) = .ok (.iload_n 3, 1)) (d2 : decode cL_law (pc + 2) = .ok (.iconst n, 1)) (d3 : decode cL_law (pc + 3) = .ok (.iadd, 1)) (d4 : decode cL_law (pc + 4) = .ok (.iaload, 1)) (hn : Int32.ofInt n = nI k) (h : am_J (ML L xs) d (pc + 5) (lwl i) (.int (xs (i + k)) :: st) mem Q) : am_J (ML L xs) d pc (lwl i) st mem Q := by
  refine am_aload_n 0 d0 rfl rfl (am_iload_n 3 d1 rfl rfl (am_iconst (v := nI k) d2 hn (am_iadd d3 ?_)))
  rw [nI_add]
  refine am_sld (L := L) (xs := xs) rfl (nI_in (by omega) (by omega)) d4 ?_
  rw [nI_clamp (by omega)]
  exact h
theorem ok6_map : am_ok m6_map 2 := ⟨am_at 254 (by decide +kernel) (by decide +kernel), am_at 1 (by decide +kernel) (by decide +kernel), by decide +kernel, by decide⟩
theorem in6_map : Cond.instanceMethod yX6_map ∈ am_tbl := am_at 252 (by decide +kernel) (by decide +kernel)
theorem se6_map : Cond.selects RX6 yX6_map yX6_map ∈ am_tbl := am_at 253 (by decide +kernel) (by decide +kernel)
theorem lL_13 : Cond.methodLink RL 13 yX6_map ∈ am_tbl := am_at 251 (by decide +kernel) (by decide +kernel)
theorem ok7_map : am_ok m7_map 2 := ⟨am_at 713 (by decide +kernel) (by decide +kernel), am_at 8 (by decide +kernel) (by decide +kernel), by decide +kernel, by decide⟩
theorem in7_map : Cond.instanceMethod yX7_map ∈ am_tbl := am_at 711 (by decide +kernel) (by decide +kernel)
theorem se7_map : Cond.selects RX7 yX7_map yX7_map ∈ am_tbl := am_at 712 (by decide +kernel) (by decide +kernel)
theorem lL_17 : Cond.methodLink RL 17 yX7_map ∈ am_tbl := am_at 710 (by decide +kernel) (by decide +kernel)
theorem ok6_site : am_ok m6_site 5 := ⟨am_at 261 (by decide +kernel) (by decide +kernel), am_at 1 (by decide +kernel) (by decide +kernel), by decide +kernel, by decide⟩
theorem in6_site : Cond.instanceMethod yX6_site ∈ am_tbl := am_at 259 (by decide +kernel) (by decide +kernel)
theorem se6_site : Cond.selects RX6 yX6_site yX6_site ∈ am_tbl := am_at 260 (by decide +kernel) (by decide +kernel)
theorem lL_18 : Cond.methodLink RL 18 yX6_site ∈ am_tbl := am_at 258 (by decide +kernel) (by decide +kernel)
theorem ok7_site : am_ok m7_site 5 := ⟨am_at 722 (by decide +kernel) (by decide +kernel), am_at 8 (by decide +kernel) (by decide +kernel), by decide +kernel, by decide⟩
theorem in7_site : Cond.instanceMethod yX7_site ∈ am_tbl := am_at 720 (by decide +kernel) (by decide +kernel)
theorem se7_site : Cond.selects RX7 yX7_site yX7_site ∈ am_tbl := am_at 721 (by decide +kernel) (by decide +kernel)
theorem lL_22 : Cond.methodLink RL 22 yX7_site ∈ am_tbl := am_at 719 (by decide +kernel) (by decide +kernel)
theorem ok6_move : am_ok m6_move 3 := ⟨am_at 277 (by decide +kernel) (by decide +kernel), am_at 1 (by decide +kernel) (by decide +kernel), by decide +kernel, by decide⟩
theorem in6_move : Cond.instanceMethod yX6_move ∈ am_tbl := am_at 275 (by decide +kernel) (by decide +kernel)
theorem se6_move : Cond.selects RX6 yX6_move yX6_move ∈ am_tbl := am_at 276 (by decide +kernel) (by decide +kernel)
theorem lL_23 : Cond.methodLink RL 23 yX6_move ∈ am_tbl := am_at 274 (by decide +kernel) (by decide +kernel)
theorem ok7_move : am_ok m7_move 3 := ⟨am_at 729 (by decide +kernel) (by decide +kernel), am_at 8 (by decide +kernel) (by decide +kernel), by decide +kernel, by decide⟩
theorem in7_move : Cond.instanceMethod yX7_move ∈ am_tbl := am_at 727 (by decide +kernel) (by decide +kernel)
theorem se7_move : Cond.selects RX7 yX7_move yX7_move ∈ am_tbl := am_at 728 (by decide +kernel) (by decide +kernel)
theorem lL_27 : Cond.methodLink RL 27 yX7_move ∈ am_tbl := am_at 726 (by decide +kernel) (by decide +kernel)
theorem ok6_allow : am_ok m6_allow 3 := ⟨am_at 285 (by decide +kernel) (by decide +kernel), am_at 1 (by decide +kernel) (by decide +kernel), by decide +kernel, by decide⟩
theorem in6_allow : Cond.instanceMethod yX6_allow ∈ am_tbl := am_at 283 (by decide +kernel) (by decide +kernel)
theorem se6_allow : Cond.selects RX6 yX6_allow yX6_allow ∈ am_tbl := am_at 284 (by decide +kernel) (by decide +kernel)
theorem lL_28 : Cond.methodLink RL 28 yX6_allow ∈ am_tbl := am_at 282 (by decide +kernel) (by decide +kernel)
theorem ok7_allow : am_ok m7_allow 3 := ⟨am_at 737 (by decide +kernel) (by decide +kernel), am_at 8 (by decide +kernel) (by decide +kernel), by decide +kernel, by decide⟩
theorem in7_allow : Cond.instanceMethod yX7_allow ∈ am_tbl := am_at 735 (by decide +kernel) (by decide +kernel)
theorem se7_allow : Cond.selects RX7 yX7_allow yX7_allow ∈ am_tbl := am_at 736 (by decide +kernel) (by decide +kernel)
theorem lL_32 : Cond.methodLink RL 32 yX7_allow ∈ am_tbl := am_at 734 (by decide +kernel) (by decide +kernel)
theorem ok6_rule : am_ok m6_rule 2 := ⟨am_at 296 (by decide +kernel) (by decide +kernel), am_at 1 (by decide +kernel) (by decide +kernel), by decide +kernel, by decide⟩
theorem in6_rule : Cond.instanceMethod yX6_rule ∈ am_tbl := am_at 294 (by decide +kernel) (by decide +kernel)
theorem se6_rule : Cond.selects RX6 yX6_rule yX6_rule ∈ am_tbl := am_at 295 (by decide +kernel) (by decide +kernel)
theorem lL_33 : Cond.methodLink RL 33 yX6_rule ∈ am_tbl := am_at 293 (by decide +kernel) (by decide +kernel)
theorem ok7_rule : am_ok m7_rule 2 := ⟨am_at 745 (by decide +kernel) (by decide +kernel), am_at 8 (by decide +kernel) (by decide +kernel), by decide +kernel, by decide⟩
theorem in7_rule : Cond.instanceMethod yX7_rule ∈ am_tbl := am_at 743 (by decide +kernel) (by decide +kernel)
theorem se7_rule : Cond.selects RX7 yX7_rule yX7_rule ∈ am_tbl := am_at 744 (by decide +kernel) (by decide +kernel)
theorem lL_36 : Cond.methodLink RL 36 yX7_rule ∈ am_tbl := am_at 742 (by decide +kernel) (by decide +kernel)
theorem ok6_about : am_ok m6_about 2 := ⟨am_at 300 (by decide +kernel) (by decide +kernel), am_at 1 (by decide +kernel) (by decide +kernel), by decide +kernel, by decide⟩
theorem in6_about : Cond.instanceMethod yX6_about ∈ am_tbl := am_at 298 (by decide +kernel) (by decide +kernel)
theorem se6_about : Cond.selects RX6 yX6_about yX6_about ∈ am_tbl := am_at 299 (by decide +kernel) (by decide +kernel)
theorem lL_37 : Cond.methodLink RL 37 yX6_about ∈ am_tbl := am_at 297 (by decide +kernel) (by decide +kernel)
theorem ok7_about : am_ok m7_about 2 := ⟨am_at 750 (by decide +kernel) (by decide +kernel), am_at 8 (by decide +kernel) (by decide +kernel), by decide +kernel, by decide⟩
theorem in7_about : Cond.instanceMethod yX7_about ∈ am_tbl := am_at 748 (by decide +kernel) (by decide +kernel)
theorem se7_about : Cond.selects RX7 yX7_about yX7_about ∈ am_tbl := am_at 749 (by decide +kernel) (by decide +kernel)
theorem lL_40 : Cond.methodLink RL 40 yX7_about ∈ am_tbl := am_at 747 (by decide +kernel) (by decide +kernel)
theorem ok6_free : am_ok m6_free 2 := ⟨am_at 310 (by decide +kernel) (by decide +kernel), am_at 1 (by decide +kernel) (by decide +kernel), by decide +kernel, by decide⟩
theorem in6_free : Cond.instanceMethod yX6_free ∈ am_tbl := am_at 308 (by decide +kernel) (by decide +kernel)
theorem se6_free : Cond.selects RX6 yX6_free yX6_free ∈ am_tbl := am_at 309 (by decide +kernel) (by decide +kernel)
theorem lL_41 : Cond.methodLink RL 41 yX6_free ∈ am_tbl := am_at 307 (by decide +kernel) (by decide +kernel)
theorem ok7_free : am_ok m7_free 2 := ⟨am_at 758 (by decide +kernel) (by decide +kernel), am_at 8 (by decide +kernel) (by decide +kernel), by decide +kernel, by decide⟩
theorem in7_free : Cond.instanceMethod yX7_free ∈ am_tbl := am_at 756 (by decide +kernel) (by decide +kernel)
theorem se7_free : Cond.selects RX7 yX7_free yX7_free ∈ am_tbl := am_at 757 (by decide +kernel) (by decide +kernel)
theorem lL_44 : Cond.methodLink RL 44 yX7_free ∈ am_tbl := am_at 755 (by decide +kernel) (by decide +kernel)
theorem ok6_clash : am_ok m6_clash 4 := ⟨am_at 332 (by decide +kernel) (by decide +kernel), am_at 1 (by decide +kernel) (by decide +kernel), by decide +kernel, by decide⟩
theorem in6_clash : Cond.instanceMethod yX6_clash ∈ am_tbl := am_at 330 (by decide +kernel) (by decide +kernel)
theorem se6_clash : Cond.selects RX6 yX6_clash yX6_clash ∈ am_tbl := am_at 331 (by decide +kernel) (by decide +kernel)
theorem lL_45 : Cond.methodLink RL 45 yX6_clash ∈ am_tbl := am_at 329 (by decide +kernel) (by decide +kernel)
theorem ok7_clash : am_ok m7_clash 4 := ⟨am_at 774 (by decide +kernel) (by decide +kernel), am_at 8 (by decide +kernel) (by decide +kernel), by decide +kernel, by decide⟩
theorem in7_clash : Cond.instanceMethod yX7_clash ∈ am_tbl := am_at 772 (by decide +kernel) (by decide +kernel)
theorem se7_clash : Cond.selects RX7 yX7_clash yX7_clash ∈ am_tbl := am_at 773 (by decide +kernel) (by decide +kernel)
theorem lL_49 : Cond.methodLink RL 49 yX7_clash ∈ am_tbl := am_at 771 (by decide +kernel) (by decide +kernel)
theorem ok6_best : am_ok m6_best 0 := ⟨am_at 340 (by decide +kernel) (by decide +kernel), am_at 1 (by decide +kernel) (by decide +kernel), by decide +kernel, by decide⟩
theorem in6_best : Cond.instanceMethod yX6_best ∈ am_tbl := am_at 338 (by decide +kernel) (by decide +kernel)
theorem se6_best : Cond.selects RX6 yX6_best yX6_best ∈ am_tbl := am_at 339 (by decide +kernel) (by decide +kernel)
theorem lL_50 : Cond.methodLink RL 50 yX6_best ∈ am_tbl := am_at 337 (by decide +kernel) (by decide +kernel)
theorem ok7_best : am_ok m7_best 0 := ⟨am_at 782 (by decide +kernel) (by decide +kernel), am_at 8 (by decide +kernel) (by decide +kernel), by decide +kernel, by decide⟩
theorem in7_best : Cond.instanceMethod yX7_best ∈ am_tbl := am_at 780 (by decide +kernel) (by decide +kernel)
theorem se7_best : Cond.selects RX7 yX7_best yX7_best ∈ am_tbl := am_at 781 (by decide +kernel) (by decide +kernel)
theorem lL_54 : Cond.methodLink RL 54 yX7_best ∈ am_tbl := am_at 779 (by decide +kernel) (by decide +kernel)
theorem ok6_at : am_ok m6_at 1 := ⟨am_at 386 (by decide +kernel) (by decide +kernel), am_at 1 (by decide +kernel) (by decide +kernel), by decide +kernel, by decide⟩
theorem in6_at : Cond.instanceMethod yX6_at ∈ am_tbl := am_at 384 (by decide +kernel) (by decide +kernel)
theorem se6_at : Cond.selects RX6 yX6_at yX6_at ∈ am_tbl := am_at 385 (by decide +kernel) (by decide +kernel)
theorem lL_55 : Cond.methodLink RL 55 yX6_at ∈ am_tbl := am_at 383 (by decide +kernel) (by decide +kernel)
theorem ok7_at : am_ok m7_at 1 := ⟨am_at 802 (by decide +kernel) (by decide +kernel), am_at 8 (by decide +kernel) (by decide +kernel), by decide +kernel, by decide⟩
theorem in7_at : Cond.instanceMethod yX7_at ∈ am_tbl := am_at 800 (by decide +kernel) (by decide +kernel)
theorem se7_at : Cond.selects RX7 yX7_at yX7_at ∈ am_tbl := am_at 801 (by decide +kernel) (by decide +kernel)
theorem lL_59 : Cond.methodLink RL 59 yX7_at ∈ am_tbl := am_at 799 (by decide +kernel) (by decide +kernel)
theorem ok6_named : am_ok m6_named 0 := ⟨am_at 390 (by decide +kernel) (by decide +kernel), am_at 1 (by decide +kernel) (by decide +kernel), by decide +kernel, by decide⟩
theorem in6_named : Cond.instanceMethod yX6_named ∈ am_tbl := am_at 388 (by decide +kernel) (by decide +kernel)
theorem se6_named : Cond.selects RX6 yX6_named yX6_named ∈ am_tbl := am_at 389 (by decide +kernel) (by decide +kernel)
theorem lL_60 : Cond.methodLink RL 60 yX6_named ∈ am_tbl := am_at 387 (by decide +kernel) (by decide +kernel)
theorem ok7_named : am_ok m7_named 0 := ⟨am_at 806 (by decide +kernel) (by decide +kernel), am_at 8 (by decide +kernel) (by decide +kernel), by decide +kernel, by decide⟩
theorem in7_named : Cond.instanceMethod yX7_named ∈ am_tbl := am_at 804 (by decide +kernel) (by decide +kernel)
theorem se7_named : Cond.selects RX7 yX7_named yX7_named ∈ am_tbl := am_at 805 (by decide +kernel) (by decide +kernel)
theorem lL_63 : Cond.methodLink RL 63 yX7_named ∈ am_tbl := am_at 803 (by decide +kernel) (by decide +kernel)
theorem ok6_full : am_ok m6_full 0 := ⟨am_at 394 (by decide +kernel) (by decide +kernel), am_at 1 (by decide +kernel) (by decide +kernel), by decide +kernel, by decide⟩
theorem in6_full : Cond.instanceMethod yX6_full ∈ am_tbl := am_at 392 (by decide +kernel) (by decide +kernel)
theorem se6_full : Cond.selects RX6 yX6_full yX6_full ∈ am_tbl := am_at 393 (by decide +kernel) (by decide +kernel)
theorem lL_64 : Cond.methodLink RL 64 yX6_full ∈ am_tbl := am_at 391 (by decide +kernel) (by decide +kernel)
theorem ok7_full : am_ok m7_full 0 := ⟨am_at 810 (by decide +kernel) (by decide +kernel), am_at 8 (by decide +kernel) (by decide +kernel), by decide +kernel, by decide⟩
theorem in7_full : Cond.instanceMethod yX7_full ∈ am_tbl := am_at 808 (by decide +kernel) (by decide +kernel)
theorem se7_full : Cond.selects RX7 yX7_full yX7_full ∈ am_tbl := am_at 809 (by decide +kernel) (by decide +kernel)
theorem lL_67 : Cond.methodLink RL 67 yX7_full ∈ am_tbl := am_at 807 (by decide +kernel) (by decide +kernel)
theorem ok6_with : am_ok m6_with 2 := ⟨am_at 406 (by decide +kernel) (by decide +kernel), am_at 1 (by decide +kernel) (by decide +kernel), by decide +kernel, by decide⟩
theorem in6_with : Cond.instanceMethod yX6_with ∈ am_tbl := am_at 404 (by decide +kernel) (by decide +kernel)
theorem se6_with : Cond.selects RX6 yX6_with yX6_with ∈ am_tbl := am_at 405 (by decide +kernel) (by decide +kernel)
theorem lL_68 : Cond.methodLink RL 68 yX6_with ∈ am_tbl := am_at 403 (by decide +kernel) (by decide +kernel)
theorem ok7_with : am_ok m7_with 2 := ⟨am_at 818 (by decide +kernel) (by decide +kernel), am_at 8 (by decide +kernel) (by decide +kernel), by decide +kernel, by decide⟩
theorem in7_with : Cond.instanceMethod yX7_with ∈ am_tbl := am_at 816 (by decide +kernel) (by decide +kernel)
theorem se7_with : Cond.selects RX7 yX7_with yX7_with ∈ am_tbl := am_at 817 (by decide +kernel) (by decide +kernel)
theorem lL_71 : Cond.methodLink RL 71 yX7_with ∈ am_tbl := am_at 815 (by decide +kernel) (by decide +kernel)
theorem ok6_sure : am_ok m6_sure 1 := ⟨am_at 418 (by decide +kernel) (by decide +kernel), am_at 1 (by decide +kernel) (by decide +kernel), by decide +kernel, by decide⟩
theorem in6_sure : Cond.instanceMethod yX6_sure ∈ am_tbl := am_at 416 (by decide +kernel) (by decide +kernel)
theorem se6_sure : Cond.selects RX6 yX6_sure yX6_sure ∈ am_tbl := am_at 417 (by decide +kernel) (by decide +kernel)
theorem lL_72 : Cond.methodLink RL 72 yX6_sure ∈ am_tbl := am_at 415 (by decide +kernel) (by decide +kernel)
theorem ok7_sure : am_ok m7_sure 1 := ⟨am_at 822 (by decide +kernel) (by decide +kernel), am_at 8 (by decide +kernel) (by decide +kernel), by decide +kernel, by decide⟩
theorem in7_sure : Cond.instanceMethod yX7_sure ∈ am_tbl := am_at 820 (by decide +kernel) (by decide +kernel)
theorem se7_sure : Cond.selects RX7 yX7_sure yX7_sure ∈ am_tbl := am_at 821 (by decide +kernel) (by decide +kernel)
theorem lL_75 : Cond.methodLink RL 75 yX7_sure ∈ am_tbl := am_at 819 (by decide +kernel) (by decide +kernel)
theorem ok6_greatest : am_ok m6_greatest 0 := ⟨am_at 429 (by decide +kernel) (by decide +kernel), am_at 1 (by decide +kernel) (by decide +kernel), by decide +kernel, by decide⟩
theorem in6_greatest : Cond.instanceMethod yX6_greatest ∈ am_tbl := am_at 427 (by decide +kernel) (by decide +kernel)
theorem se6_greatest : Cond.selects RX6 yX6_greatest yX6_greatest ∈ am_tbl := am_at 428 (by decide +kernel) (by decide +kernel)
theorem lL_76 : Cond.methodLink RL 76 yX6_greatest ∈ am_tbl := am_at 426 (by decide +kernel) (by decide +kernel)
theorem ok7_greatest : am_ok m7_greatest 0 := ⟨am_at 826 (by decide +kernel) (by decide +kernel), am_at 8 (by decide +kernel) (by decide +kernel), by decide +kernel, by decide⟩
theorem in7_greatest : Cond.instanceMethod yX7_greatest ∈ am_tbl := am_at 824 (by decide +kernel) (by decide +kernel)
theorem se7_greatest : Cond.selects RX7 yX7_greatest yX7_greatest ∈ am_tbl := am_at 825 (by decide +kernel) (by decide +kernel)
theorem lL_79 : Cond.methodLink RL 79 yX7_greatest ∈ am_tbl := am_at 823 (by decide +kernel) (by decide +kernel)
theorem ok6_least : am_ok m6_least 0 := ⟨am_at 438 (by decide +kernel) (by decide +kernel), am_at 1 (by decide +kernel) (by decide +kernel), by decide +kernel, by decide⟩
theorem in6_least : Cond.instanceMethod yX6_least ∈ am_tbl := am_at 436 (by decide +kernel) (by decide +kernel)
theorem se6_least : Cond.selects RX6 yX6_least yX6_least ∈ am_tbl := am_at 437 (by decide +kernel) (by decide +kernel)
theorem lL_80 : Cond.methodLink RL 80 yX6_least ∈ am_tbl := am_at 435 (by decide +kernel) (by decide +kernel)
theorem ok7_least : am_ok m7_least 0 := ⟨am_at 830 (by decide +kernel) (by decide +kernel), am_at 8 (by decide +kernel) (by decide +kernel), by decide +kernel, by decide⟩
theorem in7_least : Cond.instanceMethod yX7_least ∈ am_tbl := am_at 828 (by decide +kernel) (by decide +kernel)
theorem se7_least : Cond.selects RX7 yX7_least yX7_least ∈ am_tbl := am_at 829 (by decide +kernel) (by decide +kernel)
theorem lL_83 : Cond.methodLink RL 83 yX7_least ∈ am_tbl := am_at 827 (by decide +kernel) (by decide +kernel)
theorem ok6_put : am_ok m6_put 2 := ⟨am_at 443 (by decide +kernel) (by decide +kernel), am_at 1 (by decide +kernel) (by decide +kernel), by decide +kernel, by decide⟩
theorem in6_put : Cond.instanceMethod yX6_put ∈ am_tbl := am_at 441 (by decide +kernel) (by decide +kernel)
theorem se6_put : Cond.selects RX6 yX6_put yX6_put ∈ am_tbl := am_at 442 (by decide +kernel) (by decide +kernel)
theorem lL_84 : Cond.methodLink RL 84 yX6_put ∈ am_tbl := am_at 440 (by decide +kernel) (by decide +kernel)
theorem ok7_put : am_ok m7_put 2 := ⟨am_at 834 (by decide +kernel) (by decide +kernel), am_at 8 (by decide +kernel) (by decide +kernel), by decide +kernel, by decide⟩
theorem in7_put : Cond.instanceMethod yX7_put ∈ am_tbl := am_at 832 (by decide +kernel) (by decide +kernel)
theorem se7_put : Cond.selects RX7 yX7_put yX7_put ∈ am_tbl := am_at 833 (by decide +kernel) (by decide +kernel)
theorem lL_87 : Cond.methodLink RL 87 yX7_put ∈ am_tbl := am_at 831 (by decide +kernel) (by decide +kernel)
theorem ok6_hand : am_ok m6_hand 1 := ⟨am_at 447 (by decide +kernel) (by decide +kernel), am_at 1 (by decide +kernel) (by decide +kernel), by decide +kernel, by decide⟩
theorem in6_hand : Cond.instanceMethod yX6_hand ∈ am_tbl := am_at 445 (by decide +kernel) (by decide +kernel)
theorem se6_hand : Cond.selects RX6 yX6_hand yX6_hand ∈ am_tbl := am_at 446 (by decide +kernel) (by decide +kernel)
theorem lL_88 : Cond.methodLink RL 88 yX6_hand ∈ am_tbl := am_at 444 (by decide +kernel) (by decide +kernel)
theorem ok7_hand : am_ok m7_hand 1 := ⟨am_at 838 (by decide +kernel) (by decide +kernel), am_at 8 (by decide +kernel) (by decide +kernel), by decide +kernel, by decide⟩
theorem in7_hand : Cond.instanceMethod yX7_hand ∈ am_tbl := am_at 836 (by decide +kernel) (by decide +kernel)
theorem se7_hand : Cond.selects RX7 yX7_hand yX7_hand ∈ am_tbl := am_at 837 (by decide +kernel) (by decide +kernel)
theorem lL_91 : Cond.methodLink RL 91 yX7_hand ∈ am_tbl := am_at 835 (by decide +kernel) (by decide +kernel)
theorem ok6_take : am_ok m6_take 0 := ⟨am_at 451 (by decide +kernel) (by decide +kernel), am_at 1 (by decide +kernel) (by decide +kernel), by decide +kernel, by decide⟩
theorem in6_take : Cond.instanceMethod yX6_take ∈ am_tbl := am_at 449 (by decide +kernel) (by decide +kernel)
theorem se6_take : Cond.selects RX6 yX6_take yX6_take ∈ am_tbl := am_at 450 (by decide +kernel) (by decide +kernel)
theorem lL_92 : Cond.methodLink RL 92 yX6_take ∈ am_tbl := am_at 448 (by decide +kernel) (by decide +kernel)
theorem ok7_take : am_ok m7_take 0 := ⟨am_at 842 (by decide +kernel) (by decide +kernel), am_at 8 (by decide +kernel) (by decide +kernel), by decide +kernel, by decide⟩
theorem in7_take : Cond.instanceMethod yX7_take ∈ am_tbl := am_at 840 (by decide +kernel) (by decide +kernel)
theorem se7_take : Cond.selects RX7 yX7_take yX7_take ∈ am_tbl := am_at 841 (by decide +kernel) (by decide +kernel)
theorem lL_95 : Cond.methodLink RL 95 yX7_take ∈ am_tbl := am_at 839 (by decide +kernel) (by decide +kernel)
theorem ok6_faults : am_ok m6_faults 0 := ⟨am_at 455 (by decide +kernel) (by decide +kernel), am_at 1 (by decide +kernel) (by decide +kernel), by decide +kernel, by decide⟩
theorem in6_faults : Cond.instanceMethod yX6_faults ∈ am_tbl := am_at 453 (by decide +kernel) (by decide +kernel)
theorem se6_faults : Cond.selects RX6 yX6_faults yX6_faults ∈ am_tbl := am_at 454 (by decide +kernel) (by decide +kernel)
theorem lL_96 : Cond.methodLink RL 96 yX6_faults ∈ am_tbl := am_at 452 (by decide +kernel) (by decide +kernel)
theorem ok7_faults : am_ok m7_faults 0 := ⟨am_at 846 (by decide +kernel) (by decide +kernel), am_at 8 (by decide +kernel) (by decide +kernel), by decide +kernel, by decide⟩
theorem in7_faults : Cond.instanceMethod yX7_faults ∈ am_tbl := am_at 844 (by decide +kernel) (by decide +kernel)
theorem se7_faults : Cond.selects RX7 yX7_faults yX7_faults ∈ am_tbl := am_at 845 (by decide +kernel) (by decide +kernel)
theorem lL_99 : Cond.methodLink RL 99 yX7_faults ∈ am_tbl := am_at 843 (by decide +kernel) (by decide +kernel)
theorem ok6_faultsOf : am_ok m6_faultsOf 1 := ⟨am_at 475 (by decide +kernel) (by decide +kernel), am_at 1 (by decide +kernel) (by decide +kernel), by decide +kernel, by decide⟩
theorem in6_faultsOf : Cond.instanceMethod yX6_faultsOf ∈ am_tbl := am_at 473 (by decide +kernel) (by decide +kernel)
theorem se6_faultsOf : Cond.selects RX6 yX6_faultsOf yX6_faultsOf ∈ am_tbl := am_at 474 (by decide +kernel) (by decide +kernel)
theorem lL_100 : Cond.methodLink RL 100 yX6_faultsOf ∈ am_tbl := am_at 472 (by decide +kernel) (by decide +kernel)
theorem ok7_faultsOf : am_ok m7_faultsOf 1 := ⟨am_at 858 (by decide +kernel) (by decide +kernel), am_at 8 (by decide +kernel) (by decide +kernel), by decide +kernel, by decide⟩
theorem in7_faultsOf : Cond.instanceMethod yX7_faultsOf ∈ am_tbl := am_at 856 (by decide +kernel) (by decide +kernel)
theorem se7_faultsOf : Cond.selects RX7 yX7_faultsOf yX7_faultsOf ∈ am_tbl := am_at 857 (by decide +kernel) (by decide +kernel)
theorem lL_103 : Cond.methodLink RL 103 yX7_faultsOf ∈ am_tbl := am_at 855 (by decide +kernel) (by decide +kernel)
theorem ok6_stir : am_ok m6_stir 0 := ⟨am_at 481 (by decide +kernel) (by decide +kernel), am_at 1 (by decide +kernel) (by decide +kernel), by decide +kernel, by decide⟩
theorem in6_stir : Cond.instanceMethod yX6_stir ∈ am_tbl := am_at 479 (by decide +kernel) (by decide +kernel)
theorem se6_stir : Cond.selects RX6 yX6_stir yX6_stir ∈ am_tbl := am_at 480 (by decide +kernel) (by decide +kernel)
theorem lL_104 : Cond.methodLink RL 104 yX6_stir ∈ am_tbl := am_at 478 (by decide +kernel) (by decide +kernel)
theorem ok7_stir : am_ok m7_stir 0 := ⟨am_at 862 (by decide +kernel) (by decide +kernel), am_at 8 (by decide +kernel) (by decide +kernel), by decide +kernel, by decide⟩
theorem in7_stir : Cond.instanceMethod yX7_stir ∈ am_tbl := am_at 860 (by decide +kernel) (by decide +kernel)
theorem se7_stir : Cond.selects RX7 yX7_stir yX7_stir ∈ am_tbl := am_at 861 (by decide +kernel) (by decide +kernel)
theorem lL_107 : Cond.methodLink RL 107 yX7_stir ∈ am_tbl := am_at 859 (by decide +kernel) (by decide +kernel)
theorem ok6_settle : am_ok m6_settle 0 := ⟨am_at 490 (by decide +kernel) (by decide +kernel), am_at 1 (by decide +kernel) (by decide +kernel), by decide +kernel, by decide⟩
theorem in6_settle : Cond.instanceMethod yX6_settle ∈ am_tbl := am_at 488 (by decide +kernel) (by decide +kernel)
theorem se6_settle : Cond.selects RX6 yX6_settle yX6_settle ∈ am_tbl := am_at 489 (by decide +kernel) (by decide +kernel)
theorem lL_108 : Cond.methodLink RL 108 yX6_settle ∈ am_tbl := am_at 487 (by decide +kernel) (by decide +kernel)
theorem ok7_settle : am_ok m7_settle 0 := ⟨am_at 870 (by decide +kernel) (by decide +kernel), am_at 8 (by decide +kernel) (by decide +kernel), by decide +kernel, by decide⟩
theorem in7_settle : Cond.instanceMethod yX7_settle ∈ am_tbl := am_at 868 (by decide +kernel) (by decide +kernel)
theorem se7_settle : Cond.selects RX7 yX7_settle yX7_settle ∈ am_tbl := am_at 869 (by decide +kernel) (by decide +kernel)
theorem lL_111 : Cond.methodLink RL 111 yX7_settle ∈ am_tbl := am_at 867 (by decide +kernel) (by decide +kernel)
theorem ok6_stands : am_ok m6_stands 0 := ⟨am_at 494 (by decide +kernel) (by decide +kernel), am_at 1 (by decide +kernel) (by decide +kernel), by decide +kernel, by decide⟩
theorem in6_stands : Cond.instanceMethod yX6_stands ∈ am_tbl := am_at 492 (by decide +kernel) (by decide +kernel)
theorem se6_stands : Cond.selects RX6 yX6_stands yX6_stands ∈ am_tbl := am_at 493 (by decide +kernel) (by decide +kernel)
theorem lL_112 : Cond.methodLink RL 112 yX6_stands ∈ am_tbl := am_at 491 (by decide +kernel) (by decide +kernel)
theorem ok7_stands : am_ok m7_stands 0 := ⟨am_at 874 (by decide +kernel) (by decide +kernel), am_at 8 (by decide +kernel) (by decide +kernel), by decide +kernel, by decide⟩
theorem in7_stands : Cond.instanceMethod yX7_stands ∈ am_tbl := am_at 872 (by decide +kernel) (by decide +kernel)
theorem se7_stands : Cond.selects RX7 yX7_stands yX7_stands ∈ am_tbl := am_at 873 (by decide +kernel) (by decide +kernel)
theorem lL_115 : Cond.methodLink RL 115 yX7_stands ∈ am_tbl := am_at 871 (by decide +kernel) (by decide +kernel)
theorem ok6_shown : am_ok m6_shown 1 := ⟨am_at 498 (by decide +kernel) (by decide +kernel), am_at 1 (by decide +kernel) (by decide +kernel), by decide +kernel, by decide⟩
theorem in6_shown : Cond.instanceMethod yX6_shown ∈ am_tbl := am_at 496 (by decide +kernel) (by decide +kernel)
theorem se6_shown : Cond.selects RX6 yX6_shown yX6_shown ∈ am_tbl := am_at 497 (by decide +kernel) (by decide +kernel)
theorem lL_116 : Cond.methodLink RL 116 yX6_shown ∈ am_tbl := am_at 495 (by decide +kernel) (by decide +kernel)
theorem ok7_shown : am_ok m7_shown 1 := ⟨am_at 878 (by decide +kernel) (by decide +kernel), am_at 8 (by decide +kernel) (by decide +kernel), by decide +kernel, by decide⟩
theorem in7_shown : Cond.instanceMethod yX7_shown ∈ am_tbl := am_at 876 (by decide +kernel) (by decide +kernel)
theorem se7_shown : Cond.selects RX7 yX7_shown yX7_shown ∈ am_tbl := am_at 877 (by decide +kernel) (by decide +kernel)
theorem lL_119 : Cond.methodLink RL 119 yX7_shown ∈ am_tbl := am_at 875 (by decide +kernel) (by decide +kernel)
theorem ok6_comes : am_ok m6_comes 1 := ⟨am_at 522 (by decide +kernel) (by decide +kernel), am_at 1 (by decide +kernel) (by decide +kernel), by decide +kernel, by decide⟩
theorem in6_comes : Cond.instanceMethod yX6_comes ∈ am_tbl := am_at 520 (by decide +kernel) (by decide +kernel)
theorem se6_comes : Cond.selects RX6 yX6_comes yX6_comes ∈ am_tbl := am_at 521 (by decide +kernel) (by decide +kernel)
theorem lL_120 : Cond.methodLink RL 120 yX6_comes ∈ am_tbl := am_at 519 (by decide +kernel) (by decide +kernel)
theorem ok7_comes : am_ok m7_comes 1 := ⟨am_at 895 (by decide +kernel) (by decide +kernel), am_at 8 (by decide +kernel) (by decide +kernel), by decide +kernel, by decide⟩
theorem in7_comes : Cond.instanceMethod yX7_comes ∈ am_tbl := am_at 893 (by decide +kernel) (by decide +kernel)
theorem se7_comes : Cond.selects RX7 yX7_comes yX7_comes ∈ am_tbl := am_at 894 (by decide +kernel) (by decide +kernel)
theorem lL_123 : Cond.methodLink RL 123 yX7_comes ∈ am_tbl := am_at 892 (by decide +kernel) (by decide +kernel)
theorem ok6_shownAt : am_ok m6_shownAt 1 := ⟨am_at 526 (by decide +kernel) (by decide +kernel), am_at 1 (by decide +kernel) (by decide +kernel), by decide +kernel, by decide⟩
theorem in6_shownAt : Cond.instanceMethod yX6_shownAt ∈ am_tbl := am_at 524 (by decide +kernel) (by decide +kernel)
theorem se6_shownAt : Cond.selects RX6 yX6_shownAt yX6_shownAt ∈ am_tbl := am_at 525 (by decide +kernel) (by decide +kernel)
theorem lL_124 : Cond.methodLink RL 124 yX6_shownAt ∈ am_tbl := am_at 523 (by decide +kernel) (by decide +kernel)
theorem ok7_shownAt : am_ok m7_shownAt 1 := ⟨am_at 899 (by decide +kernel) (by decide +kernel), am_at 8 (by decide +kernel) (by decide +kernel), by decide +kernel, by decide⟩
theorem in7_shownAt : Cond.instanceMethod yX7_shownAt ∈ am_tbl := am_at 897 (by decide +kernel) (by decide +kernel)
theorem se7_shownAt : Cond.selects RX7 yX7_shownAt yX7_shownAt ∈ am_tbl := am_at 898 (by decide +kernel) (by decide +kernel)
theorem lL_127 : Cond.methodLink RL 127 yX7_shownAt ∈ am_tbl := am_at 896 (by decide +kernel) (by decide +kernel)
theorem ok6_crosses : am_ok m6_crosses 1 := ⟨am_at 530 (by decide +kernel) (by decide +kernel), am_at 1 (by decide +kernel) (by decide +kernel), by decide +kernel, by decide⟩
theorem in6_crosses : Cond.instanceMethod yX6_crosses ∈ am_tbl := am_at 528 (by decide +kernel) (by decide +kernel)
theorem se6_crosses : Cond.selects RX6 yX6_crosses yX6_crosses ∈ am_tbl := am_at 529 (by decide +kernel) (by decide +kernel)
theorem lL_128 : Cond.methodLink RL 128 yX6_crosses ∈ am_tbl := am_at 527 (by decide +kernel) (by decide +kernel)
theorem ok7_crosses : am_ok m7_crosses 1 := ⟨am_at 903 (by decide +kernel) (by decide +kernel), am_at 8 (by decide +kernel) (by decide +kernel), by decide +kernel, by decide⟩
theorem in7_crosses : Cond.instanceMethod yX7_crosses ∈ am_tbl := am_at 901 (by decide +kernel) (by decide +kernel)
theorem se7_crosses : Cond.selects RX7 yX7_crosses yX7_crosses ∈ am_tbl := am_at 902 (by decide +kernel) (by decide +kernel)
theorem lL_131 : Cond.methodLink RL 131 yX7_crosses ∈ am_tbl := am_at 900 (by decide +kernel) (by decide +kernel)
theorem ok6_length : am_ok m6_length 1 := ⟨am_at 587 (by decide +kernel) (by decide +kernel), am_at 1 (by decide +kernel) (by decide +kernel), by decide +kernel, by decide⟩
theorem in6_length : Cond.instanceMethod yX6_length ∈ am_tbl := am_at 585 (by decide +kernel) (by decide +kernel)
theorem se6_length : Cond.selects RX6 yX6_length yX6_length ∈ am_tbl := am_at 586 (by decide +kernel) (by decide +kernel)
theorem lL_132 : Cond.methodLink RL 132 yX6_length ∈ am_tbl := am_at 584 (by decide +kernel) (by decide +kernel)
theorem ok7_length : am_ok m7_length 1 := ⟨am_at 934 (by decide +kernel) (by decide +kernel), am_at 8 (by decide +kernel) (by decide +kernel), by decide +kernel, by decide⟩
theorem in7_length : Cond.instanceMethod yX7_length ∈ am_tbl := am_at 932 (by decide +kernel) (by decide +kernel)
theorem se7_length : Cond.selects RX7 yX7_length yX7_length ∈ am_tbl := am_at 933 (by decide +kernel) (by decide +kernel)
theorem lL_135 : Cond.methodLink RL 135 yX7_length ∈ am_tbl := am_at 931 (by decide +kernel) (by decide +kernel)
theorem ok6_place : am_ok m6_place 2 := ⟨am_at 591 (by decide +kernel) (by decide +kernel), am_at 1 (by decide +kernel) (by decide +kernel), by decide +kernel, by decide⟩
theorem in6_place : Cond.instanceMethod yX6_place ∈ am_tbl := am_at 589 (by decide +kernel) (by decide +kernel)
theorem se6_place : Cond.selects RX6 yX6_place yX6_place ∈ am_tbl := am_at 590 (by decide +kernel) (by decide +kernel)
theorem lL_136 : Cond.methodLink RL 136 yX6_place ∈ am_tbl := am_at 588 (by decide +kernel) (by decide +kernel)
theorem ok7_place : am_ok m7_place 2 := ⟨am_at 938 (by decide +kernel) (by decide +kernel), am_at 8 (by decide +kernel) (by decide +kernel), by decide +kernel, by decide⟩
theorem in7_place : Cond.instanceMethod yX7_place ∈ am_tbl := am_at 936 (by decide +kernel) (by decide +kernel)
theorem se7_place : Cond.selects RX7 yX7_place yX7_place ∈ am_tbl := am_at 937 (by decide +kernel) (by decide +kernel)
theorem lL_139 : Cond.methodLink RL 139 yX7_place ∈ am_tbl := am_at 935 (by decide +kernel) (by decide +kernel)
theorem ok6_cross : am_ok m6_cross 4 := ⟨am_at 600 (by decide +kernel) (by decide +kernel), am_at 1 (by decide +kernel) (by decide +kernel), by decide +kernel, by decide⟩
theorem in6_cross : Cond.instanceMethod yX6_cross ∈ am_tbl := am_at 598 (by decide +kernel) (by decide +kernel)
theorem se6_cross : Cond.selects RX6 yX6_cross yX6_cross ∈ am_tbl := am_at 599 (by decide +kernel) (by decide +kernel)
theorem lL_140 : Cond.methodLink RL 140 yX6_cross ∈ am_tbl := am_at 597 (by decide +kernel) (by decide +kernel)
theorem ok7_cross : am_ok m7_cross 4 := ⟨am_at 942 (by decide +kernel) (by decide +kernel), am_at 8 (by decide +kernel) (by decide +kernel), by decide +kernel, by decide⟩
theorem in7_cross : Cond.instanceMethod yX7_cross ∈ am_tbl := am_at 940 (by decide +kernel) (by decide +kernel)
theorem se7_cross : Cond.selects RX7 yX7_cross yX7_cross ∈ am_tbl := am_at 941 (by decide +kernel) (by decide +kernel)
theorem lL_143 : Cond.methodLink RL 143 yX7_cross ∈ am_tbl := am_at 939 (by decide +kernel) (by decide +kernel)
theorem ok6_count : am_ok m6_count 1 := ⟨am_at 605 (by decide +kernel) (by decide +kernel), am_at 1 (by decide +kernel) (by decide +kernel), by decide +kernel, by decide⟩
theorem in6_count : Cond.instanceMethod yX6_count ∈ am_tbl := am_at 603 (by decide +kernel) (by decide +kernel)
theorem se6_count : Cond.selects RX6 yX6_count yX6_count ∈ am_tbl := am_at 604 (by decide +kernel) (by decide +kernel)
theorem lL_144 : Cond.methodLink RL 144 yX6_count ∈ am_tbl := am_at 602 (by decide +kernel) (by decide +kernel)
theorem ok7_count : am_ok m7_count 1 := ⟨am_at 946 (by decide +kernel) (by decide +kernel), am_at 8 (by decide +kernel) (by decide +kernel), by decide +kernel, by decide⟩
theorem in7_count : Cond.instanceMethod yX7_count ∈ am_tbl := am_at 944 (by decide +kernel) (by decide +kernel)
theorem se7_count : Cond.selects RX7 yX7_count yX7_count ∈ am_tbl := am_at 945 (by decide +kernel) (by decide +kernel)
theorem lL_147 : Cond.methodLink RL 147 yX7_count ∈ am_tbl := am_at 943 (by decide +kernel) (by decide +kernel)
theorem lc_0 {L : Nat} {xs : Nat → Int32} {i : Nat} {mem : am_Mem} {σ : mp_S} {Q : Option Value → am_Mem → Prop} (hL : L ≤ 3072) (hi : i + 6 ≤ L) (hI : Inv mem σ) (k : ∀ mem' σ', Inv mem' σ' → am_J (ML L xs) 21 1038 (lwl i) [] mem' Q) : am_J (ML L xs) 21 176 (lwl i) [] mem Q := by
  refine am_aload_n (pc := 176) 1 dL_law_176 rfl rfl ?_
  refine ls_ld (pc := 177) 1 (by decide) hL hi dL_law_177 dL_law_178 dL_law_179 dL_law_180 dL_law_181 rfl ?_
  refine ls_ld (pc := 182) 2 (by decide) hL hi dL_law_182 dL_law_183 dL_law_184 dL_law_185 dL_law_186 rfl ?_
  refine am_callV (pc := 187) m6_map 20 2 [.int (xs (i + 1)), .int (xs (i + 2))] (rest := []) ok6_map (by omega) rfl rfl sh0 (by decide) rfl lL_13 in6_map se6_map (Nat.le_of_ble_eq_true rfl) dL_law_187 ?_
  refine am_Ci.use (pr_map hI (xs (i + 1)) (xs (i + 2)) (fun r1 r2 mem2 => am_J (ML L xs) 21 204 (lwl i) [.int r2, .int r1] mem2 Q) (fun r mem2 σ2 hI2 => am_icmp_eq (pc := 204) 1038 dL_law_204 (by decide) (fun _ => k mem2 σ2 hI2) (fun q => absurd rfl q))) (fun r1 mem1 h1 => ?_)
  refine am_aload_n (pc := 190) 2 dL_law_190 rfl rfl ?_
  refine ls_ld (pc := 191) 1 (by decide) hL hi dL_law_191 dL_law_192 dL_law_193 dL_law_194 dL_law_195 rfl ?_
  refine ls_ld (pc := 196) 2 (by decide) hL hi dL_law_196 dL_law_197 dL_law_198 dL_law_199 dL_law_200 rfl ?_
  refine am_callV (pc := 201) m7_map 20 2 [.int (xs (i + 1)), .int (xs (i + 2))] (rest := [.int r1]) ok7_map (by omega) rfl rfl sh30 (by decide) rfl lL_17 in7_map se7_map (Nat.le_of_ble_eq_true rfl) dL_law_201 ?_
  exact am_Ci.use h1 (fun r2 mem2 h2 => h2)
theorem lc_1 {L : Nat} {xs : Nat → Int32} {i : Nat} {mem : am_Mem} {σ : mp_S} {Q : Option Value → am_Mem → Prop} (hL : L ≤ 3072) (hi : i + 6 ≤ L) (hI : Inv mem σ) (k : ∀ mem' σ', Inv mem' σ' → am_J (ML L xs) 21 1038 (lwl i) [] mem' Q) : am_J (ML L xs) 21 209 (lwl i) [] mem Q := by
  refine am_aload_n (pc := 209) 1 dL_law_209 rfl rfl ?_
  refine ls_ld (pc := 210) 1 (by decide) hL hi dL_law_210 dL_law_211 dL_law_212 dL_law_213 dL_law_214 rfl ?_
  refine ls_ld (pc := 215) 2 (by decide) hL hi dL_law_215 dL_law_216 dL_law_217 dL_law_218 dL_law_219 rfl ?_
  refine ls_ld (pc := 220) 3 (by decide) hL hi dL_law_220 dL_law_221 dL_law_222 dL_law_223 dL_law_224 rfl ?_
  refine ls_ld (pc := 225) 4 (by decide) hL hi dL_law_225 dL_law_226 dL_law_227 dL_law_228 dL_law_229 rfl ?_
  refine ls_ld (pc := 230) 5 (by decide) hL hi dL_law_230 dL_law_231 dL_law_232 dL_law_233 dL_law_234 rfl ?_
  refine am_callV (pc := 235) m6_site 20 5 [.int (xs (i + 1)), .int (xs (i + 2)), .int (xs (i + 3)), .int (xs (i + 4)), .int (xs (i + 5))] (rest := []) ok6_site (by omega) rfl rfl sh0 (by decide) rfl lL_18 in6_site se6_site (Nat.le_of_ble_eq_true rfl) dL_law_235 ?_
  refine am_Ci.use (pr_site hI (xs (i + 1)) (xs (i + 2)) (xs (i + 3)) (xs (i + 4)) (xs (i + 5)) (fun r1 r2 mem2 => am_J (ML L xs) 21 267 (lwl i) [.int r2, .int r1] mem2 Q) (fun r mem2 σ2 hI2 => am_icmp_eq (pc := 267) 1038 dL_law_267 (by decide) (fun _ => k mem2 σ2 hI2) (fun q => absurd rfl q))) (fun r1 mem1 h1 => ?_)
  refine am_aload_n (pc := 238) 2 dL_law_238 rfl rfl ?_
  refine ls_ld (pc := 239) 1 (by decide) hL hi dL_law_239 dL_law_240 dL_law_241 dL_law_242 dL_law_243 rfl ?_
  refine ls_ld (pc := 244) 2 (by decide) hL hi dL_law_244 dL_law_245 dL_law_246 dL_law_247 dL_law_248 rfl ?_
  refine ls_ld (pc := 249) 3 (by decide) hL hi dL_law_249 dL_law_250 dL_law_251 dL_law_252 dL_law_253 rfl ?_
  refine ls_ld (pc := 254) 4 (by decide) hL hi dL_law_254 dL_law_255 dL_law_256 dL_law_257 dL_law_258 rfl ?_
  refine ls_ld (pc := 259) 5 (by decide) hL hi dL_law_259 dL_law_260 dL_law_261 dL_law_262 dL_law_263 rfl ?_
  refine am_callV (pc := 264) m7_site 20 5 [.int (xs (i + 1)), .int (xs (i + 2)), .int (xs (i + 3)), .int (xs (i + 4)), .int (xs (i + 5))] (rest := [.int r1]) ok7_site (by omega) rfl rfl sh30 (by decide) rfl lL_22 in7_site se7_site (Nat.le_of_ble_eq_true rfl) dL_law_264 ?_
  exact am_Ci.use h1 (fun r2 mem2 h2 => h2)
theorem lc_2 {L : Nat} {xs : Nat → Int32} {i : Nat} {mem : am_Mem} {σ : mp_S} {Q : Option Value → am_Mem → Prop} (hL : L ≤ 3072) (hi : i + 6 ≤ L) (hI : Inv mem σ) (k : ∀ mem' σ', Inv mem' σ' → am_J (ML L xs) 21 1038 (lwl i) [] mem' Q) : am_J (ML L xs) 21 272 (lwl i) [] mem Q := by
  refine am_aload_n (pc := 272) 1 dL_law_272 rfl rfl ?_
  refine ls_ld (pc := 273) 1 (by decide) hL hi dL_law_273 dL_law_274 dL_law_275 dL_law_276 dL_law_277 rfl ?_
  refine ls_ld (pc := 278) 2 (by decide) hL hi dL_law_278 dL_law_279 dL_law_280 dL_law_281 dL_law_282 rfl ?_
  refine ls_ld (pc := 283) 3 (by decide) hL hi dL_law_283 dL_law_284 dL_law_285 dL_law_286 dL_law_287 rfl ?_
  refine am_callV (pc := 288) m6_move 20 3 [.int (xs (i + 1)), .int (xs (i + 2)), .int (xs (i + 3))] (rest := []) ok6_move (by omega) rfl rfl sh0 (by decide) rfl lL_23 in6_move se6_move (Nat.le_of_ble_eq_true rfl) dL_law_288 ?_
  refine am_Ci.use (pr_move hI (xs (i + 1)) (xs (i + 2)) (xs (i + 3)) (fun r1 r2 mem2 => am_J (ML L xs) 21 310 (lwl i) [.int r2, .int r1] mem2 Q) (fun r mem2 σ2 hI2 => am_icmp_eq (pc := 310) 1038 dL_law_310 (by decide) (fun _ => k mem2 σ2 hI2) (fun q => absurd rfl q))) (fun r1 mem1 h1 => ?_)
  refine am_aload_n (pc := 291) 2 dL_law_291 rfl rfl ?_
  refine ls_ld (pc := 292) 1 (by decide) hL hi dL_law_292 dL_law_293 dL_law_294 dL_law_295 dL_law_296 rfl ?_
  refine ls_ld (pc := 297) 2 (by decide) hL hi dL_law_297 dL_law_298 dL_law_299 dL_law_300 dL_law_301 rfl ?_
  refine ls_ld (pc := 302) 3 (by decide) hL hi dL_law_302 dL_law_303 dL_law_304 dL_law_305 dL_law_306 rfl ?_
  refine am_callV (pc := 307) m7_move 20 3 [.int (xs (i + 1)), .int (xs (i + 2)), .int (xs (i + 3))] (rest := [.int r1]) ok7_move (by omega) rfl rfl sh30 (by decide) rfl lL_27 in7_move se7_move (Nat.le_of_ble_eq_true rfl) dL_law_307 ?_
  exact am_Ci.use h1 (fun r2 mem2 h2 => h2)
theorem lc_3 {L : Nat} {xs : Nat → Int32} {i : Nat} {mem : am_Mem} {σ : mp_S} {Q : Option Value → am_Mem → Prop} (hL : L ≤ 3072) (hi : i + 6 ≤ L) (hI : Inv mem σ) (k : ∀ mem' σ', Inv mem' σ' → am_J (ML L xs) 21 1038 (lwl i) [] mem' Q) : am_J (ML L xs) 21 315 (lwl i) [] mem Q := by
  by_cases hz : xs (i + 3) = 0
  · refine am_aload_n (pc := 315) 1 dL_law_315 rfl rfl ?_
    refine ls_ld (pc := 316) 1 (by decide) hL hi dL_law_316 dL_law_317 dL_law_318 dL_law_319 dL_law_320 rfl ?_
    refine ls_ld (pc := 321) 2 (by decide) hL hi dL_law_321 dL_law_322 dL_law_323 dL_law_324 dL_law_325 rfl ?_
    refine ls_ld (pc := 326) 3 (by decide) hL hi dL_law_326 dL_law_327 dL_law_328 dL_law_329 dL_law_330 rfl ?_
    refine am_if_eq (pc := 331) 338 dL_law_331 (by decide) (fun _ => ?_) (fun q => absurd hz q)
    refine am_iconst (pc := 338) (v := 0) dL_law_338 rfl ?_
    refine am_callV (pc := 339) m6_allow 20 3 [.int (xs (i + 1)), .int (xs (i + 2)), .int (bi false)] (rest := []) ok6_allow (by omega) rfl rfl sh0 (by decide) rfl lL_28 in6_allow se6_allow (Nat.le_of_ble_eq_true rfl) dL_law_339 ?_
    refine am_Ci.use (pr_allow hI (xs (i + 1)) (xs (i + 2)) false (fun r1 r2 mem2 => am_J (ML L xs) 21 369 (lwl i) [.int r2, .int r1] mem2 Q) (fun r mem2 σ2 hI2 => am_icmp_eq (pc := 369) 1038 dL_law_369 (by decide) (fun _ => k mem2 σ2 hI2) (fun q => absurd rfl q))) (fun r1 mem1 h1 => ?_)
    refine am_aload_n (pc := 342) 2 dL_law_342 rfl rfl ?_
    refine ls_ld (pc := 343) 1 (by decide) hL hi dL_law_343 dL_law_344 dL_law_345 dL_law_346 dL_law_347 rfl ?_
    refine ls_ld (pc := 348) 2 (by decide) hL hi dL_law_348 dL_law_349 dL_law_350 dL_law_351 dL_law_352 rfl ?_
    refine ls_ld (pc := 353) 3 (by decide) hL hi dL_law_353 dL_law_354 dL_law_355 dL_law_356 dL_law_357 rfl ?_
    refine am_if_eq (pc := 358) 365 dL_law_358 (by decide) (fun _ => ?_) (fun q => absurd hz q)
    refine am_iconst (pc := 365) (v := 0) dL_law_365 rfl ?_
    refine am_callV (pc := 366) m7_allow 20 3 [.int (xs (i + 1)), .int (xs (i + 2)), .int (bi false)] (rest := [.int r1]) ok7_allow (by omega) rfl rfl sh30 (by decide) rfl lL_32 in7_allow se7_allow (Nat.le_of_ble_eq_true rfl) dL_law_366 ?_
    exact am_Ci.use h1 (fun r2 mem2 h2 => h2)
  · refine am_aload_n (pc := 315) 1 dL_law_315 rfl rfl ?_
    refine ls_ld (pc := 316) 1 (by decide) hL hi dL_law_316 dL_law_317 dL_law_318 dL_law_319 dL_law_320 rfl ?_
    refine ls_ld (pc := 321) 2 (by decide) hL hi dL_law_321 dL_law_322 dL_law_323 dL_law_324 dL_law_325 rfl ?_
    refine ls_ld (pc := 326) 3 (by decide) hL hi dL_law_326 dL_law_327 dL_law_328 dL_law_329 dL_law_330 rfl ?_
    refine am_if_eq (pc := 331) 338 dL_law_331 (by decide) (fun q => absurd q hz) (fun _ => ?_)
    refine am_iconst (pc := 334) (v := 1) dL_law_334 rfl ?_
    refine am_goto (pc := 335) 339 dL_law_335 (by decide) ?_
    refine am_callV (pc := 339) m6_allow 20 3 [.int (xs (i + 1)), .int (xs (i + 2)), .int (bi true)] (rest := []) ok6_allow (by omega) rfl rfl sh0 (by decide) rfl lL_28 in6_allow se6_allow (Nat.le_of_ble_eq_true rfl) dL_law_339 ?_
    refine am_Ci.use (pr_allow hI (xs (i + 1)) (xs (i + 2)) true (fun r1 r2 mem2 => am_J (ML L xs) 21 369 (lwl i) [.int r2, .int r1] mem2 Q) (fun r mem2 σ2 hI2 => am_icmp_eq (pc := 369) 1038 dL_law_369 (by decide) (fun _ => k mem2 σ2 hI2) (fun q => absurd rfl q))) (fun r1 mem1 h1 => ?_)
    refine am_aload_n (pc := 342) 2 dL_law_342 rfl rfl ?_
    refine ls_ld (pc := 343) 1 (by decide) hL hi dL_law_343 dL_law_344 dL_law_345 dL_law_346 dL_law_347 rfl ?_
    refine ls_ld (pc := 348) 2 (by decide) hL hi dL_law_348 dL_law_349 dL_law_350 dL_law_351 dL_law_352 rfl ?_
    refine ls_ld (pc := 353) 3 (by decide) hL hi dL_law_353 dL_law_354 dL_law_355 dL_law_356 dL_law_357 rfl ?_
    refine am_if_eq (pc := 358) 365 dL_law_358 (by decide) (fun q => absurd q hz) (fun _ => ?_)
    refine am_iconst (pc := 361) (v := 1) dL_law_361 rfl ?_
    refine am_goto (pc := 362) 366 dL_law_362 (by decide) ?_
    refine am_callV (pc := 366) m7_allow 20 3 [.int (xs (i + 1)), .int (xs (i + 2)), .int (bi true)] (rest := [.int r1]) ok7_allow (by omega) rfl rfl sh30 (by decide) rfl lL_32 in7_allow se7_allow (Nat.le_of_ble_eq_true rfl) dL_law_366 ?_
    exact am_Ci.use h1 (fun r2 mem2 h2 => h2)
theorem lc_4 {L : Nat} {xs : Nat → Int32} {i : Nat} {mem : am_Mem} {σ : mp_S} {Q : Option Value → am_Mem → Prop} (hL : L ≤ 3072) (hi : i + 6 ≤ L) (hI : Inv mem σ) (k : ∀ mem' σ', Inv mem' σ' → am_J (ML L xs) 21 1038 (lwl i) [] mem' Q) : am_J (ML L xs) 21 374 (lwl i) [] mem Q := by
  refine am_aload_n (pc := 374) 1 dL_law_374 rfl rfl ?_
  refine ls_ld (pc := 375) 1 (by decide) hL hi dL_law_375 dL_law_376 dL_law_377 dL_law_378 dL_law_379 rfl ?_
  refine ls_ld (pc := 380) 2 (by decide) hL hi dL_law_380 dL_law_381 dL_law_382 dL_law_383 dL_law_384 rfl ?_
  refine am_callV (pc := 385) m6_rule 20 2 [.int (xs (i + 1)), .int (xs (i + 2))] (rest := []) ok6_rule (by omega) rfl rfl sh0 (by decide) rfl lL_33 in6_rule se6_rule (Nat.le_of_ble_eq_true rfl) dL_law_385 ?_
  refine am_Ci.use (pr_rule hI (xs (i + 1)) (xs (i + 2)) (fun r1 r2 mem2 => am_J (ML L xs) 21 402 (lwl i) [.int r2, .int r1] mem2 Q) (fun r mem2 σ2 hI2 => am_icmp_eq (pc := 402) 1038 dL_law_402 (by decide) (fun _ => k mem2 σ2 hI2) (fun q => absurd rfl q))) (fun r1 mem1 h1 => ?_)
  refine am_aload_n (pc := 388) 2 dL_law_388 rfl rfl ?_
  refine ls_ld (pc := 389) 1 (by decide) hL hi dL_law_389 dL_law_390 dL_law_391 dL_law_392 dL_law_393 rfl ?_
  refine ls_ld (pc := 394) 2 (by decide) hL hi dL_law_394 dL_law_395 dL_law_396 dL_law_397 dL_law_398 rfl ?_
  refine am_callV (pc := 399) m7_rule 20 2 [.int (xs (i + 1)), .int (xs (i + 2))] (rest := [.int r1]) ok7_rule (by omega) rfl rfl sh30 (by decide) rfl lL_36 in7_rule se7_rule (Nat.le_of_ble_eq_true rfl) dL_law_399 ?_
  exact am_Ci.use h1 (fun r2 mem2 h2 => h2)
theorem lc_5 {L : Nat} {xs : Nat → Int32} {i : Nat} {mem : am_Mem} {σ : mp_S} {Q : Option Value → am_Mem → Prop} (hL : L ≤ 3072) (hi : i + 6 ≤ L) (hI : Inv mem σ) (k : ∀ mem' σ', Inv mem' σ' → am_J (ML L xs) 21 1038 (lwl i) [] mem' Q) : am_J (ML L xs) 21 407 (lwl i) [] mem Q := by
  refine am_aload_n (pc := 407) 1 dL_law_407 rfl rfl ?_
  refine ls_ld (pc := 408) 1 (by decide) hL hi dL_law_408 dL_law_409 dL_law_410 dL_law_411 dL_law_412 rfl ?_
  refine ls_ld (pc := 413) 2 (by decide) hL hi dL_law_413 dL_law_414 dL_law_415 dL_law_416 dL_law_417 rfl ?_
  refine am_callV (pc := 418) m6_about 20 2 [.int (xs (i + 1)), .int (xs (i + 2))] (rest := []) ok6_about (by omega) rfl rfl sh0 (by decide) rfl lL_37 in6_about se6_about (Nat.le_of_ble_eq_true rfl) dL_law_418 ?_
  refine am_Ci.use (pr_about hI (xs (i + 1)) (xs (i + 2)) (fun r1 r2 mem2 => am_J (ML L xs) 21 435 (lwl i) [.int r2, .int r1] mem2 Q) (fun r mem2 σ2 hI2 => am_icmp_eq (pc := 435) 1038 dL_law_435 (by decide) (fun _ => k mem2 σ2 hI2) (fun q => absurd rfl q))) (fun r1 mem1 h1 => ?_)
  refine am_aload_n (pc := 421) 2 dL_law_421 rfl rfl ?_
  refine ls_ld (pc := 422) 1 (by decide) hL hi dL_law_422 dL_law_423 dL_law_424 dL_law_425 dL_law_426 rfl ?_
  refine ls_ld (pc := 427) 2 (by decide) hL hi dL_law_427 dL_law_428 dL_law_429 dL_law_430 dL_law_431 rfl ?_
  refine am_callV (pc := 432) m7_about 20 2 [.int (xs (i + 1)), .int (xs (i + 2))] (rest := [.int r1]) ok7_about (by omega) rfl rfl sh30 (by decide) rfl lL_40 in7_about se7_about (Nat.le_of_ble_eq_true rfl) dL_law_432 ?_
  exact am_Ci.use h1 (fun r2 mem2 h2 => h2)
theorem lc_6 {L : Nat} {xs : Nat → Int32} {i : Nat} {mem : am_Mem} {σ : mp_S} {Q : Option Value → am_Mem → Prop} (hL : L ≤ 3072) (hi : i + 6 ≤ L) (hI : Inv mem σ) (k : ∀ mem' σ', Inv mem' σ' → am_J (ML L xs) 21 1038 (lwl i) [] mem' Q) : am_J (ML L xs) 21 440 (lwl i) [] mem Q := by
  refine am_aload_n (pc := 440) 1 dL_law_440 rfl rfl ?_
  refine ls_ld (pc := 441) 1 (by decide) hL hi dL_law_441 dL_law_442 dL_law_443 dL_law_444 dL_law_445 rfl ?_
  refine ls_ld (pc := 446) 2 (by decide) hL hi dL_law_446 dL_law_447 dL_law_448 dL_law_449 dL_law_450 rfl ?_
  refine am_callV (pc := 451) m6_free 20 2 [.int (xs (i + 1)), .int (xs (i + 2))] (rest := []) ok6_free (by omega) rfl rfl sh0 (by decide) rfl lL_41 in6_free se6_free (Nat.le_of_ble_eq_true rfl) dL_law_451 ?_
  refine am_Ci.use (pr_free hI (xs (i + 1)) (xs (i + 2)) (fun r1 r2 mem2 => am_J (ML L xs) 21 468 (lwl i) [.int r2, .int r1] mem2 Q) (fun r mem2 σ2 hI2 => am_icmp_eq (pc := 468) 1038 dL_law_468 (by decide) (fun _ => k mem2 σ2 hI2) (fun q => absurd rfl q))) (fun r1 mem1 h1 => ?_)
  refine am_aload_n (pc := 454) 2 dL_law_454 rfl rfl ?_
  refine ls_ld (pc := 455) 1 (by decide) hL hi dL_law_455 dL_law_456 dL_law_457 dL_law_458 dL_law_459 rfl ?_
  refine ls_ld (pc := 460) 2 (by decide) hL hi dL_law_460 dL_law_461 dL_law_462 dL_law_463 dL_law_464 rfl ?_
  refine am_callV (pc := 465) m7_free 20 2 [.int (xs (i + 1)), .int (xs (i + 2))] (rest := [.int r1]) ok7_free (by omega) rfl rfl sh30 (by decide) rfl lL_44 in7_free se7_free (Nat.le_of_ble_eq_true rfl) dL_law_465 ?_
  exact am_Ci.use h1 (fun r2 mem2 h2 => h2)
theorem lc_7 {L : Nat} {xs : Nat → Int32} {i : Nat} {mem : am_Mem} {σ : mp_S} {Q : Option Value → am_Mem → Prop} (hL : L ≤ 3072) (hi : i + 6 ≤ L) (hI : Inv mem σ) (k : ∀ mem' σ', Inv mem' σ' → am_J (ML L xs) 21 1038 (lwl i) [] mem' Q) : am_J (ML L xs) 21 473 (lwl i) [] mem Q := by
  refine am_aload_n (pc := 473) 1 dL_law_473 rfl rfl ?_
  refine ls_ld (pc := 474) 1 (by decide) hL hi dL_law_474 dL_law_475 dL_law_476 dL_law_477 dL_law_478 rfl ?_
  refine ls_ld (pc := 479) 2 (by decide) hL hi dL_law_479 dL_law_480 dL_law_481 dL_law_482 dL_law_483 rfl ?_
  refine ls_ld (pc := 484) 3 (by decide) hL hi dL_law_484 dL_law_485 dL_law_486 dL_law_487 dL_law_488 rfl ?_
  refine ls_ld (pc := 489) 4 (by decide) hL hi dL_law_489 dL_law_490 dL_law_491 dL_law_492 dL_law_493 rfl ?_
  refine am_callV (pc := 494) m6_clash 20 4 [.int (xs (i + 1)), .int (xs (i + 2)), .int (xs (i + 3)), .int (xs (i + 4))] (rest := []) ok6_clash (by omega) rfl rfl sh0 (by decide) rfl lL_45 in6_clash se6_clash (Nat.le_of_ble_eq_true rfl) dL_law_494 ?_
  refine am_Ci.use (pr_clash hI (xs (i + 1)) (xs (i + 2)) (xs (i + 3)) (xs (i + 4)) (fun r1 r2 mem2 => am_J (ML L xs) 21 521 (lwl i) [.int r2, .int r1] mem2 Q) (fun r mem2 σ2 hI2 => am_icmp_eq (pc := 521) 1038 dL_law_521 (by decide) (fun _ => k mem2 σ2 hI2) (fun q => absurd rfl q))) (fun r1 mem1 h1 => ?_)
  refine am_aload_n (pc := 497) 2 dL_law_497 rfl rfl ?_
  refine ls_ld (pc := 498) 1 (by decide) hL hi dL_law_498 dL_law_499 dL_law_500 dL_law_501 dL_law_502 rfl ?_
  refine ls_ld (pc := 503) 2 (by decide) hL hi dL_law_503 dL_law_504 dL_law_505 dL_law_506 dL_law_507 rfl ?_
  refine ls_ld (pc := 508) 3 (by decide) hL hi dL_law_508 dL_law_509 dL_law_510 dL_law_511 dL_law_512 rfl ?_
  refine ls_ld (pc := 513) 4 (by decide) hL hi dL_law_513 dL_law_514 dL_law_515 dL_law_516 dL_law_517 rfl ?_
  refine am_callV (pc := 518) m7_clash 20 4 [.int (xs (i + 1)), .int (xs (i + 2)), .int (xs (i + 3)), .int (xs (i + 4))] (rest := [.int r1]) ok7_clash (by omega) rfl rfl sh30 (by decide) rfl lL_49 in7_clash se7_clash (Nat.le_of_ble_eq_true rfl) dL_law_518 ?_
  exact am_Ci.use h1 (fun r2 mem2 h2 => h2)
theorem lc_8 {L : Nat} {xs : Nat → Int32} {i : Nat} {mem : am_Mem} {σ : mp_S} {Q : Option Value → am_Mem → Prop} (hL : L ≤ 3072) (hi : i + 6 ≤ L) (hI : Inv mem σ) (k : ∀ mem' σ', Inv mem' σ' → am_J (ML L xs) 21 1038 (lwl i) [] mem' Q) : am_J (ML L xs) 21 526 (lwl i) [] mem Q := by
  refine am_aload_n (pc := 526) 1 dL_law_526 rfl rfl ?_
  refine am_callV (pc := 527) m6_best 20 0 [] (rest := []) ok6_best (by omega) rfl rfl sh0 (by decide) rfl lL_50 in6_best se6_best (Nat.le_of_ble_eq_true rfl) dL_law_527 ?_
  refine am_Ci.use (pr_best hI (fun r1 r2 mem2 => am_J (ML L xs) 21 534 (lwl i) [.int r2, .int r1] mem2 Q) (fun r mem2 σ2 hI2 => am_icmp_eq (pc := 534) 1038 dL_law_534 (by decide) (fun _ => k mem2 σ2 hI2) (fun q => absurd rfl q))) (fun r1 mem1 h1 => ?_)
  refine am_aload_n (pc := 530) 2 dL_law_530 rfl rfl ?_
  refine am_callV (pc := 531) m7_best 20 0 [] (rest := [.int r1]) ok7_best (by omega) rfl rfl sh30 (by decide) rfl lL_54 in7_best se7_best (Nat.le_of_ble_eq_true rfl) dL_law_531 ?_
  exact am_Ci.use h1 (fun r2 mem2 h2 => h2)
theorem lc_9 {L : Nat} {xs : Nat → Int32} {i : Nat} {mem : am_Mem} {σ : mp_S} {Q : Option Value → am_Mem → Prop} (hL : L ≤ 3072) (hi : i + 6 ≤ L) (hI : Inv mem σ) (k : ∀ mem' σ', Inv mem' σ' → am_J (ML L xs) 21 1038 (lwl i) [] mem' Q) : am_J (ML L xs) 21 539 (lwl i) [] mem Q := by
  refine am_aload_n (pc := 539) 1 dL_law_539 rfl rfl ?_
  refine ls_ld (pc := 540) 1 (by decide) hL hi dL_law_540 dL_law_541 dL_law_542 dL_law_543 dL_law_544 rfl ?_
  refine am_callV (pc := 545) m6_at 20 1 [.int (xs (i + 1))] (rest := []) ok6_at (by omega) rfl rfl sh0 (by decide) rfl lL_55 in6_at se6_at (Nat.le_of_ble_eq_true rfl) dL_law_545 ?_
  refine am_Ci.use (pr_at hI (xs (i + 1)) (fun r1 r2 mem2 => am_J (ML L xs) 21 557 (lwl i) [.int r2, .int r1] mem2 Q) (fun r mem2 σ2 hI2 => am_icmp_eq (pc := 557) 1038 dL_law_557 (by decide) (fun _ => k mem2 σ2 hI2) (fun q => absurd rfl q))) (fun r1 mem1 h1 => ?_)
  refine am_aload_n (pc := 548) 2 dL_law_548 rfl rfl ?_
  refine ls_ld (pc := 549) 1 (by decide) hL hi dL_law_549 dL_law_550 dL_law_551 dL_law_552 dL_law_553 rfl ?_
  refine am_callV (pc := 554) m7_at 20 1 [.int (xs (i + 1))] (rest := [.int r1]) ok7_at (by omega) rfl rfl sh30 (by decide) rfl lL_59 in7_at se7_at (Nat.le_of_ble_eq_true rfl) dL_law_554 ?_
  exact am_Ci.use h1 (fun r2 mem2 h2 => h2)
theorem lc_10 {L : Nat} {xs : Nat → Int32} {i : Nat} {mem : am_Mem} {σ : mp_S} {Q : Option Value → am_Mem → Prop} (hL : L ≤ 3072) (hi : i + 6 ≤ L) (hI : Inv mem σ) (k : ∀ mem' σ', Inv mem' σ' → am_J (ML L xs) 21 1038 (lwl i) [] mem' Q) : am_J (ML L xs) 21 562 (lwl i) [] mem Q := by
  refine am_aload_n (pc := 562) 1 dL_law_562 rfl rfl ?_
  refine am_callV (pc := 563) m6_named 20 0 [] (rest := []) ok6_named (by omega) rfl rfl sh0 (by decide) rfl lL_60 in6_named se6_named (Nat.le_of_ble_eq_true rfl) dL_law_563 ?_
  refine am_Ci.use (pr_named hI (fun r1 r2 mem2 => am_J (ML L xs) 21 570 (lwl i) [.int r2, .int r1] mem2 Q) (fun r mem2 σ2 hI2 => am_icmp_eq (pc := 570) 1038 dL_law_570 (by decide) (fun _ => k mem2 σ2 hI2) (fun q => absurd rfl q))) (fun r1 mem1 h1 => ?_)
  refine am_aload_n (pc := 566) 2 dL_law_566 rfl rfl ?_
  refine am_callV (pc := 567) m7_named 20 0 [] (rest := [.int r1]) ok7_named (by omega) rfl rfl sh30 (by decide) rfl lL_63 in7_named se7_named (Nat.le_of_ble_eq_true rfl) dL_law_567 ?_
  exact am_Ci.use h1 (fun r2 mem2 h2 => h2)
theorem lc_11 {L : Nat} {xs : Nat → Int32} {i : Nat} {mem : am_Mem} {σ : mp_S} {Q : Option Value → am_Mem → Prop} (hL : L ≤ 3072) (hi : i + 6 ≤ L) (hI : Inv mem σ) (k : ∀ mem' σ', Inv mem' σ' → am_J (ML L xs) 21 1038 (lwl i) [] mem' Q) : am_J (ML L xs) 21 575 (lwl i) [] mem Q := by
  refine am_aload_n (pc := 575) 1 dL_law_575 rfl rfl ?_
  refine am_callV (pc := 576) m6_full 20 0 [] (rest := []) ok6_full (by omega) rfl rfl sh0 (by decide) rfl lL_64 in6_full se6_full (Nat.le_of_ble_eq_true rfl) dL_law_576 ?_
  refine am_Ci.use (pr_full hI (fun r1 r2 mem2 => am_J (ML L xs) 21 583 (lwl i) [.int r2, .int r1] mem2 Q) (fun r mem2 σ2 hI2 => am_icmp_eq (pc := 583) 1038 dL_law_583 (by decide) (fun _ => k mem2 σ2 hI2) (fun q => absurd rfl q))) (fun r1 mem1 h1 => ?_)
  refine am_aload_n (pc := 579) 2 dL_law_579 rfl rfl ?_
  refine am_callV (pc := 580) m7_full 20 0 [] (rest := [.int r1]) ok7_full (by omega) rfl rfl sh30 (by decide) rfl lL_67 in7_full se7_full (Nat.le_of_ble_eq_true rfl) dL_law_580 ?_
  exact am_Ci.use h1 (fun r2 mem2 h2 => h2)
theorem lc_12 {L : Nat} {xs : Nat → Int32} {i : Nat} {mem : am_Mem} {σ : mp_S} {Q : Option Value → am_Mem → Prop} (hL : L ≤ 3072) (hi : i + 6 ≤ L) (hI : Inv mem σ) (k : ∀ mem' σ', Inv mem' σ' → am_J (ML L xs) 21 1038 (lwl i) [] mem' Q) : am_J (ML L xs) 21 588 (lwl i) [] mem Q := by
  refine am_aload_n (pc := 588) 1 dL_law_588 rfl rfl ?_
  refine ls_ld (pc := 589) 1 (by decide) hL hi dL_law_589 dL_law_590 dL_law_591 dL_law_592 dL_law_593 rfl ?_
  refine ls_ld (pc := 594) 2 (by decide) hL hi dL_law_594 dL_law_595 dL_law_596 dL_law_597 dL_law_598 rfl ?_
  refine am_callV (pc := 599) m6_with 20 2 [.int (xs (i + 1)), .int (xs (i + 2))] (rest := []) ok6_with (by omega) rfl rfl sh0 (by decide) rfl lL_68 in6_with se6_with (Nat.le_of_ble_eq_true rfl) dL_law_599 ?_
  refine am_Ci.use (pr_with hI (xs (i + 1)) (xs (i + 2)) (fun r1 r2 mem2 => am_J (ML L xs) 21 616 (lwl i) [.int r2, .int r1] mem2 Q) (fun r mem2 σ2 hI2 => am_icmp_eq (pc := 616) 1038 dL_law_616 (by decide) (fun _ => k mem2 σ2 hI2) (fun q => absurd rfl q))) (fun r1 mem1 h1 => ?_)
  refine am_aload_n (pc := 602) 2 dL_law_602 rfl rfl ?_
  refine ls_ld (pc := 603) 1 (by decide) hL hi dL_law_603 dL_law_604 dL_law_605 dL_law_606 dL_law_607 rfl ?_
  refine ls_ld (pc := 608) 2 (by decide) hL hi dL_law_608 dL_law_609 dL_law_610 dL_law_611 dL_law_612 rfl ?_
  refine am_callV (pc := 613) m7_with 20 2 [.int (xs (i + 1)), .int (xs (i + 2))] (rest := [.int r1]) ok7_with (by omega) rfl rfl sh30 (by decide) rfl lL_71 in7_with se7_with (Nat.le_of_ble_eq_true rfl) dL_law_613 ?_
  exact am_Ci.use h1 (fun r2 mem2 h2 => h2)
theorem lc_13 {L : Nat} {xs : Nat → Int32} {i : Nat} {mem : am_Mem} {σ : mp_S} {Q : Option Value → am_Mem → Prop} (hL : L ≤ 3072) (hi : i + 6 ≤ L) (hI : Inv mem σ) (k : ∀ mem' σ', Inv mem' σ' → am_J (ML L xs) 21 1038 (lwl i) [] mem' Q) : am_J (ML L xs) 21 621 (lwl i) [] mem Q := by
  refine am_aload_n (pc := 621) 1 dL_law_621 rfl rfl ?_
  refine ls_ld (pc := 622) 1 (by decide) hL hi dL_law_622 dL_law_623 dL_law_624 dL_law_625 dL_law_626 rfl ?_
  refine am_callV (pc := 627) m6_sure 20 1 [.int (xs (i + 1))] (rest := []) ok6_sure (by omega) rfl rfl sh0 (by decide) rfl lL_72 in6_sure se6_sure (Nat.le_of_ble_eq_true rfl) dL_law_627 ?_
  refine am_Ci.use (pr_sure hI (xs (i + 1)) (fun r1 r2 mem2 => am_J (ML L xs) 21 639 (lwl i) [.int r2, .int r1] mem2 Q) (fun r mem2 σ2 hI2 => am_icmp_eq (pc := 639) 1038 dL_law_639 (by decide) (fun _ => k mem2 σ2 hI2) (fun q => absurd rfl q))) (fun r1 mem1 h1 => ?_)
  refine am_aload_n (pc := 630) 2 dL_law_630 rfl rfl ?_
  refine ls_ld (pc := 631) 1 (by decide) hL hi dL_law_631 dL_law_632 dL_law_633 dL_law_634 dL_law_635 rfl ?_
  refine am_callV (pc := 636) m7_sure 20 1 [.int (xs (i + 1))] (rest := [.int r1]) ok7_sure (by omega) rfl rfl sh30 (by decide) rfl lL_75 in7_sure se7_sure (Nat.le_of_ble_eq_true rfl) dL_law_636 ?_
  exact am_Ci.use h1 (fun r2 mem2 h2 => h2)
theorem lc_14 {L : Nat} {xs : Nat → Int32} {i : Nat} {mem : am_Mem} {σ : mp_S} {Q : Option Value → am_Mem → Prop} (hL : L ≤ 3072) (hi : i + 6 ≤ L) (hI : Inv mem σ) (k : ∀ mem' σ', Inv mem' σ' → am_J (ML L xs) 21 1038 (lwl i) [] mem' Q) : am_J (ML L xs) 21 644 (lwl i) [] mem Q := by
  refine am_aload_n (pc := 644) 1 dL_law_644 rfl rfl ?_
  refine am_callV (pc := 645) m6_greatest 20 0 [] (rest := []) ok6_greatest (by omega) rfl rfl sh0 (by decide) rfl lL_76 in6_greatest se6_greatest (Nat.le_of_ble_eq_true rfl) dL_law_645 ?_
  refine am_Ci.use (pr_greatest hI (fun r1 r2 mem2 => am_J (ML L xs) 21 652 (lwl i) [.int r2, .int r1] mem2 Q) (fun r mem2 σ2 hI2 => am_icmp_eq (pc := 652) 1038 dL_law_652 (by decide) (fun _ => k mem2 σ2 hI2) (fun q => absurd rfl q))) (fun r1 mem1 h1 => ?_)
  refine am_aload_n (pc := 648) 2 dL_law_648 rfl rfl ?_
  refine am_callV (pc := 649) m7_greatest 20 0 [] (rest := [.int r1]) ok7_greatest (by omega) rfl rfl sh30 (by decide) rfl lL_79 in7_greatest se7_greatest (Nat.le_of_ble_eq_true rfl) dL_law_649 ?_
  exact am_Ci.use h1 (fun r2 mem2 h2 => h2)
theorem lc_15 {L : Nat} {xs : Nat → Int32} {i : Nat} {mem : am_Mem} {σ : mp_S} {Q : Option Value → am_Mem → Prop} (hL : L ≤ 3072) (hi : i + 6 ≤ L) (hI : Inv mem σ) (k : ∀ mem' σ', Inv mem' σ' → am_J (ML L xs) 21 1038 (lwl i) [] mem' Q) : am_J (ML L xs) 21 657 (lwl i) [] mem Q := by
  refine am_aload_n (pc := 657) 1 dL_law_657 rfl rfl ?_
  refine am_callV (pc := 658) m6_least 20 0 [] (rest := []) ok6_least (by omega) rfl rfl sh0 (by decide) rfl lL_80 in6_least se6_least (Nat.le_of_ble_eq_true rfl) dL_law_658 ?_
  refine am_Ci.use (pr_least hI (fun r1 r2 mem2 => am_J (ML L xs) 21 665 (lwl i) [.int r2, .int r1] mem2 Q) (fun r mem2 σ2 hI2 => am_icmp_eq (pc := 665) 1038 dL_law_665 (by decide) (fun _ => k mem2 σ2 hI2) (fun q => absurd rfl q))) (fun r1 mem1 h1 => ?_)
  refine am_aload_n (pc := 661) 2 dL_law_661 rfl rfl ?_
  refine am_callV (pc := 662) m7_least 20 0 [] (rest := [.int r1]) ok7_least (by omega) rfl rfl sh30 (by decide) rfl lL_83 in7_least se7_least (Nat.le_of_ble_eq_true rfl) dL_law_662 ?_
  exact am_Ci.use h1 (fun r2 mem2 h2 => h2)
theorem lc_16 {L : Nat} {xs : Nat → Int32} {i : Nat} {mem : am_Mem} {σ : mp_S} {Q : Option Value → am_Mem → Prop} (hL : L ≤ 3072) (hi : i + 6 ≤ L) (hI : Inv mem σ) (k : ∀ mem' σ', Inv mem' σ' → am_J (ML L xs) 21 1038 (lwl i) [] mem' Q) : am_J (ML L xs) 21 670 (lwl i) [] mem Q := by
  refine am_aload_n (pc := 670) 1 dL_law_670 rfl rfl ?_
  refine ls_ld (pc := 671) 1 (by decide) hL hi dL_law_671 dL_law_672 dL_law_673 dL_law_674 dL_law_675 rfl ?_
  refine ls_ld (pc := 676) 2 (by decide) hL hi dL_law_676 dL_law_677 dL_law_678 dL_law_679 dL_law_680 rfl ?_
  refine am_callV (pc := 681) m6_put 20 2 [.int (xs (i + 1)), .int (xs (i + 2))] (rest := []) ok6_put (by omega) rfl rfl sh0 (by decide) rfl lL_84 in6_put se6_put (Nat.le_of_ble_eq_true rfl) dL_law_681 ?_
  refine am_Ci.use (pr_put hI (xs (i + 1)) (xs (i + 2)) (fun r1 r2 mem2 => am_J (ML L xs) 21 698 (lwl i) [.int r2, .int r1] mem2 Q) (fun r mem2 σ2 hI2 => am_icmp_eq (pc := 698) 1038 dL_law_698 (by decide) (fun _ => k mem2 σ2 hI2) (fun q => absurd rfl q))) (fun r1 mem1 h1 => ?_)
  refine am_aload_n (pc := 684) 2 dL_law_684 rfl rfl ?_
  refine ls_ld (pc := 685) 1 (by decide) hL hi dL_law_685 dL_law_686 dL_law_687 dL_law_688 dL_law_689 rfl ?_
  refine ls_ld (pc := 690) 2 (by decide) hL hi dL_law_690 dL_law_691 dL_law_692 dL_law_693 dL_law_694 rfl ?_
  refine am_callV (pc := 695) m7_put 20 2 [.int (xs (i + 1)), .int (xs (i + 2))] (rest := [.int r1]) ok7_put (by omega) rfl rfl sh30 (by decide) rfl lL_87 in7_put se7_put (Nat.le_of_ble_eq_true rfl) dL_law_695 ?_
  exact am_Ci.use h1 (fun r2 mem2 h2 => h2)
theorem lc_17 {L : Nat} {xs : Nat → Int32} {i : Nat} {mem : am_Mem} {σ : mp_S} {Q : Option Value → am_Mem → Prop} (hL : L ≤ 3072) (hi : i + 6 ≤ L) (hI : Inv mem σ) (k : ∀ mem' σ', Inv mem' σ' → am_J (ML L xs) 21 1038 (lwl i) [] mem' Q) : am_J (ML L xs) 21 703 (lwl i) [] mem Q := by
  refine am_aload_n (pc := 703) 1 dL_law_703 rfl rfl ?_
  refine ls_ld (pc := 704) 1 (by decide) hL hi dL_law_704 dL_law_705 dL_law_706 dL_law_707 dL_law_708 rfl ?_
  refine am_callV (pc := 709) m6_hand 20 1 [.int (xs (i + 1))] (rest := []) ok6_hand (by omega) rfl rfl sh0 (by decide) rfl lL_88 in6_hand se6_hand (Nat.le_of_ble_eq_true rfl) dL_law_709 ?_
  refine am_Ci.use (pr_hand hI (xs (i + 1)) (fun r1 r2 mem2 => am_J (ML L xs) 21 721 (lwl i) [.int r2, .int r1] mem2 Q) (fun r mem2 σ2 hI2 => am_icmp_eq (pc := 721) 1038 dL_law_721 (by decide) (fun _ => k mem2 σ2 hI2) (fun q => absurd rfl q))) (fun r1 mem1 h1 => ?_)
  refine am_aload_n (pc := 712) 2 dL_law_712 rfl rfl ?_
  refine ls_ld (pc := 713) 1 (by decide) hL hi dL_law_713 dL_law_714 dL_law_715 dL_law_716 dL_law_717 rfl ?_
  refine am_callV (pc := 718) m7_hand 20 1 [.int (xs (i + 1))] (rest := [.int r1]) ok7_hand (by omega) rfl rfl sh30 (by decide) rfl lL_91 in7_hand se7_hand (Nat.le_of_ble_eq_true rfl) dL_law_718 ?_
  exact am_Ci.use h1 (fun r2 mem2 h2 => h2)
theorem lc_18 {L : Nat} {xs : Nat → Int32} {i : Nat} {mem : am_Mem} {σ : mp_S} {Q : Option Value → am_Mem → Prop} (hL : L ≤ 3072) (hi : i + 6 ≤ L) (hI : Inv mem σ) (k : ∀ mem' σ', Inv mem' σ' → am_J (ML L xs) 21 1038 (lwl i) [] mem' Q) : am_J (ML L xs) 21 726 (lwl i) [] mem Q := by
  refine am_aload_n (pc := 726) 1 dL_law_726 rfl rfl ?_
  refine am_callV (pc := 727) m6_take 20 0 [] (rest := []) ok6_take (by omega) rfl rfl sh0 (by decide) rfl lL_92 in6_take se6_take (Nat.le_of_ble_eq_true rfl) dL_law_727 ?_
  refine am_Ci.use (pr_take hI (fun r1 r2 mem2 => am_J (ML L xs) 21 734 (lwl i) [.int r2, .int r1] mem2 Q) (fun r mem2 σ2 hI2 => am_icmp_eq (pc := 734) 1038 dL_law_734 (by decide) (fun _ => k mem2 σ2 hI2) (fun q => absurd rfl q))) (fun r1 mem1 h1 => ?_)
  refine am_aload_n (pc := 730) 2 dL_law_730 rfl rfl ?_
  refine am_callV (pc := 731) m7_take 20 0 [] (rest := [.int r1]) ok7_take (by omega) rfl rfl sh30 (by decide) rfl lL_95 in7_take se7_take (Nat.le_of_ble_eq_true rfl) dL_law_731 ?_
  exact am_Ci.use h1 (fun r2 mem2 h2 => h2)
theorem lc_19 {L : Nat} {xs : Nat → Int32} {i : Nat} {mem : am_Mem} {σ : mp_S} {Q : Option Value → am_Mem → Prop} (hL : L ≤ 3072) (hi : i + 6 ≤ L) (hI : Inv mem σ) (k : ∀ mem' σ', Inv mem' σ' → am_J (ML L xs) 21 1038 (lwl i) [] mem' Q) : am_J (ML L xs) 21 739 (lwl i) [] mem Q := by
  refine am_aload_n (pc := 739) 1 dL_law_739 rfl rfl ?_
  refine am_callV (pc := 740) m6_faults 20 0 [] (rest := []) ok6_faults (by omega) rfl rfl sh0 (by decide) rfl lL_96 in6_faults se6_faults (Nat.le_of_ble_eq_true rfl) dL_law_740 ?_
  refine am_Ci.use (pr_faults hI (fun r1 r2 mem2 => am_J (ML L xs) 21 747 (lwl i) [.int r2, .int r1] mem2 Q) (fun r mem2 σ2 hI2 => am_icmp_eq (pc := 747) 1038 dL_law_747 (by decide) (fun _ => k mem2 σ2 hI2) (fun q => absurd rfl q))) (fun r1 mem1 h1 => ?_)
  refine am_aload_n (pc := 743) 2 dL_law_743 rfl rfl ?_
  refine am_callV (pc := 744) m7_faults 20 0 [] (rest := [.int r1]) ok7_faults (by omega) rfl rfl sh30 (by decide) rfl lL_99 in7_faults se7_faults (Nat.le_of_ble_eq_true rfl) dL_law_744 ?_
  exact am_Ci.use h1 (fun r2 mem2 h2 => h2)
theorem lc_20 {L : Nat} {xs : Nat → Int32} {i : Nat} {mem : am_Mem} {σ : mp_S} {Q : Option Value → am_Mem → Prop} (hL : L ≤ 3072) (hi : i + 6 ≤ L) (hI : Inv mem σ) (k : ∀ mem' σ', Inv mem' σ' → am_J (ML L xs) 21 1038 (lwl i) [] mem' Q) : am_J (ML L xs) 21 752 (lwl i) [] mem Q := by
  refine am_aload_n (pc := 752) 1 dL_law_752 rfl rfl ?_
  refine ls_ld (pc := 753) 1 (by decide) hL hi dL_law_753 dL_law_754 dL_law_755 dL_law_756 dL_law_757 rfl ?_
  refine am_callV (pc := 758) m6_faultsOf 20 1 [.int (xs (i + 1))] (rest := []) ok6_faultsOf (by omega) rfl rfl sh0 (by decide) rfl lL_100 in6_faultsOf se6_faultsOf (Nat.le_of_ble_eq_true rfl) dL_law_758 ?_
  refine am_Ci.use (pr_faultsOf hI (xs (i + 1)) (fun r1 r2 mem2 => am_J (ML L xs) 21 770 (lwl i) [.int r2, .int r1] mem2 Q) (fun r mem2 σ2 hI2 => am_icmp_eq (pc := 770) 1038 dL_law_770 (by decide) (fun _ => k mem2 σ2 hI2) (fun q => absurd rfl q))) (fun r1 mem1 h1 => ?_)
  refine am_aload_n (pc := 761) 2 dL_law_761 rfl rfl ?_
  refine ls_ld (pc := 762) 1 (by decide) hL hi dL_law_762 dL_law_763 dL_law_764 dL_law_765 dL_law_766 rfl ?_
  refine am_callV (pc := 767) m7_faultsOf 20 1 [.int (xs (i + 1))] (rest := [.int r1]) ok7_faultsOf (by omega) rfl rfl sh30 (by decide) rfl lL_103 in7_faultsOf se7_faultsOf (Nat.le_of_ble_eq_true rfl) dL_law_767 ?_
  exact am_Ci.use h1 (fun r2 mem2 h2 => h2)
theorem lc_21 {L : Nat} {xs : Nat → Int32} {i : Nat} {mem : am_Mem} {σ : mp_S} {Q : Option Value → am_Mem → Prop} (hL : L ≤ 3072) (hi : i + 6 ≤ L) (hI : Inv mem σ) (k : ∀ mem' σ', Inv mem' σ' → am_J (ML L xs) 21 1038 (lwl i) [] mem' Q) : am_J (ML L xs) 21 775 (lwl i) [] mem Q := by
  refine am_aload_n (pc := 775) 1 dL_law_775 rfl rfl ?_
  refine am_callV (pc := 776) m6_stir 20 0 [] (rest := []) ok6_stir (by omega) rfl rfl sh0 (by decide) rfl lL_104 in6_stir se6_stir (Nat.le_of_ble_eq_true rfl) dL_law_776 ?_
  refine am_Ci.use (pr_stir hI (fun r1 r2 mem2 => am_J (ML L xs) 21 783 (lwl i) [.int r2, .int r1] mem2 Q) (fun r mem2 σ2 hI2 => am_icmp_eq (pc := 783) 1038 dL_law_783 (by decide) (fun _ => k mem2 σ2 hI2) (fun q => absurd rfl q))) (fun r1 mem1 h1 => ?_)
  refine am_aload_n (pc := 779) 2 dL_law_779 rfl rfl ?_
  refine am_callV (pc := 780) m7_stir 20 0 [] (rest := [.int r1]) ok7_stir (by omega) rfl rfl sh30 (by decide) rfl lL_107 in7_stir se7_stir (Nat.le_of_ble_eq_true rfl) dL_law_780 ?_
  exact am_Ci.use h1 (fun r2 mem2 h2 => h2)
theorem lc_22 {L : Nat} {xs : Nat → Int32} {i : Nat} {mem : am_Mem} {σ : mp_S} {Q : Option Value → am_Mem → Prop} (hL : L ≤ 3072) (hi : i + 6 ≤ L) (hI : Inv mem σ) (k : ∀ mem' σ', Inv mem' σ' → am_J (ML L xs) 21 1038 (lwl i) [] mem' Q) : am_J (ML L xs) 21 788 (lwl i) [] mem Q := by
  refine am_aload_n (pc := 788) 1 dL_law_788 rfl rfl ?_
  refine am_callV (pc := 789) m6_settle 20 0 [] (rest := []) ok6_settle (by omega) rfl rfl sh0 (by decide) rfl lL_108 in6_settle se6_settle (Nat.le_of_ble_eq_true rfl) dL_law_789 ?_
  refine am_Ci.use (pr_settle hI (fun r1 r2 mem2 => am_J (ML L xs) 21 796 (lwl i) [.int r2, .int r1] mem2 Q) (fun r mem2 σ2 hI2 => am_icmp_eq (pc := 796) 1038 dL_law_796 (by decide) (fun _ => k mem2 σ2 hI2) (fun q => absurd rfl q))) (fun r1 mem1 h1 => ?_)
  refine am_aload_n (pc := 792) 2 dL_law_792 rfl rfl ?_
  refine am_callV (pc := 793) m7_settle 20 0 [] (rest := [.int r1]) ok7_settle (by omega) rfl rfl sh30 (by decide) rfl lL_111 in7_settle se7_settle (Nat.le_of_ble_eq_true rfl) dL_law_793 ?_
  exact am_Ci.use h1 (fun r2 mem2 h2 => h2)
theorem lc_23 {L : Nat} {xs : Nat → Int32} {i : Nat} {mem : am_Mem} {σ : mp_S} {Q : Option Value → am_Mem → Prop} (hL : L ≤ 3072) (hi : i + 6 ≤ L) (hI : Inv mem σ) (k : ∀ mem' σ', Inv mem' σ' → am_J (ML L xs) 21 1038 (lwl i) [] mem' Q) : am_J (ML L xs) 21 801 (lwl i) [] mem Q := by
  refine am_aload_n (pc := 801) 1 dL_law_801 rfl rfl ?_
  refine am_callV (pc := 802) m6_stands 20 0 [] (rest := []) ok6_stands (by omega) rfl rfl sh0 (by decide) rfl lL_112 in6_stands se6_stands (Nat.le_of_ble_eq_true rfl) dL_law_802 ?_
  refine am_Ci.use (pr_stands hI (fun r1 r2 mem2 => am_J (ML L xs) 21 809 (lwl i) [.int r2, .int r1] mem2 Q) (fun r mem2 σ2 hI2 => am_icmp_eq (pc := 809) 1038 dL_law_809 (by decide) (fun _ => k mem2 σ2 hI2) (fun q => absurd rfl q))) (fun r1 mem1 h1 => ?_)
  refine am_aload_n (pc := 805) 2 dL_law_805 rfl rfl ?_
  refine am_callV (pc := 806) m7_stands 20 0 [] (rest := [.int r1]) ok7_stands (by omega) rfl rfl sh30 (by decide) rfl lL_115 in7_stands se7_stands (Nat.le_of_ble_eq_true rfl) dL_law_806 ?_
  exact am_Ci.use h1 (fun r2 mem2 h2 => h2)
theorem lc_24 {L : Nat} {xs : Nat → Int32} {i : Nat} {mem : am_Mem} {σ : mp_S} {Q : Option Value → am_Mem → Prop} (hL : L ≤ 3072) (hi : i + 6 ≤ L) (hI : Inv mem σ) (k : ∀ mem' σ', Inv mem' σ' → am_J (ML L xs) 21 1038 (lwl i) [] mem' Q) : am_J (ML L xs) 21 814 (lwl i) [] mem Q := by
  refine am_aload_n (pc := 814) 1 dL_law_814 rfl rfl ?_
  refine ls_ld (pc := 815) 1 (by decide) hL hi dL_law_815 dL_law_816 dL_law_817 dL_law_818 dL_law_819 rfl ?_
  refine am_callV (pc := 820) m6_shown 20 1 [.int (xs (i + 1))] (rest := []) ok6_shown (by omega) rfl rfl sh0 (by decide) rfl lL_116 in6_shown se6_shown (Nat.le_of_ble_eq_true rfl) dL_law_820 ?_
  refine am_Ci.use (pr_shown hI (xs (i + 1)) (fun r1 r2 mem2 => am_J (ML L xs) 21 832 (lwl i) [.int r2, .int r1] mem2 Q) (fun r mem2 σ2 hI2 => am_icmp_eq (pc := 832) 1038 dL_law_832 (by decide) (fun _ => k mem2 σ2 hI2) (fun q => absurd rfl q))) (fun r1 mem1 h1 => ?_)
  refine am_aload_n (pc := 823) 2 dL_law_823 rfl rfl ?_
  refine ls_ld (pc := 824) 1 (by decide) hL hi dL_law_824 dL_law_825 dL_law_826 dL_law_827 dL_law_828 rfl ?_
  refine am_callV (pc := 829) m7_shown 20 1 [.int (xs (i + 1))] (rest := [.int r1]) ok7_shown (by omega) rfl rfl sh30 (by decide) rfl lL_119 in7_shown se7_shown (Nat.le_of_ble_eq_true rfl) dL_law_829 ?_
  exact am_Ci.use h1 (fun r2 mem2 h2 => h2)
theorem lc_25 {L : Nat} {xs : Nat → Int32} {i : Nat} {mem : am_Mem} {σ : mp_S} {Q : Option Value → am_Mem → Prop} (hL : L ≤ 3072) (hi : i + 6 ≤ L) (hI : Inv mem σ) (k : ∀ mem' σ', Inv mem' σ' → am_J (ML L xs) 21 1038 (lwl i) [] mem' Q) : am_J (ML L xs) 21 837 (lwl i) [] mem Q := by
  refine am_aload_n (pc := 837) 1 dL_law_837 rfl rfl ?_
  refine ls_ld (pc := 838) 1 (by decide) hL hi dL_law_838 dL_law_839 dL_law_840 dL_law_841 dL_law_842 rfl ?_
  refine am_callV (pc := 843) m6_comes 20 1 [.int (xs (i + 1))] (rest := []) ok6_comes (by omega) rfl rfl sh0 (by decide) rfl lL_120 in6_comes se6_comes (Nat.le_of_ble_eq_true rfl) dL_law_843 ?_
  refine am_Ci.use (pr_comes hI (xs (i + 1)) (fun r1 r2 mem2 => am_J (ML L xs) 21 855 (lwl i) [.int r2, .int r1] mem2 Q) (fun r mem2 σ2 hI2 => am_icmp_eq (pc := 855) 1038 dL_law_855 (by decide) (fun _ => k mem2 σ2 hI2) (fun q => absurd rfl q))) (fun r1 mem1 h1 => ?_)
  refine am_aload_n (pc := 846) 2 dL_law_846 rfl rfl ?_
  refine ls_ld (pc := 847) 1 (by decide) hL hi dL_law_847 dL_law_848 dL_law_849 dL_law_850 dL_law_851 rfl ?_
  refine am_callV (pc := 852) m7_comes 20 1 [.int (xs (i + 1))] (rest := [.int r1]) ok7_comes (by omega) rfl rfl sh30 (by decide) rfl lL_123 in7_comes se7_comes (Nat.le_of_ble_eq_true rfl) dL_law_852 ?_
  exact am_Ci.use h1 (fun r2 mem2 h2 => h2)
theorem lc_26 {L : Nat} {xs : Nat → Int32} {i : Nat} {mem : am_Mem} {σ : mp_S} {Q : Option Value → am_Mem → Prop} (hL : L ≤ 3072) (hi : i + 6 ≤ L) (hI : Inv mem σ) (k : ∀ mem' σ', Inv mem' σ' → am_J (ML L xs) 21 1038 (lwl i) [] mem' Q) : am_J (ML L xs) 21 860 (lwl i) [] mem Q := by
  refine am_aload_n (pc := 860) 1 dL_law_860 rfl rfl ?_
  refine ls_ld (pc := 861) 1 (by decide) hL hi dL_law_861 dL_law_862 dL_law_863 dL_law_864 dL_law_865 rfl ?_
  refine am_callV (pc := 866) m6_shownAt 20 1 [.int (xs (i + 1))] (rest := []) ok6_shownAt (by omega) rfl rfl sh0 (by decide) rfl lL_124 in6_shownAt se6_shownAt (Nat.le_of_ble_eq_true rfl) dL_law_866 ?_
  refine am_Ci.use (pr_shownAt hI (xs (i + 1)) (fun r1 r2 mem2 => am_J (ML L xs) 21 878 (lwl i) [.int r2, .int r1] mem2 Q) (fun r mem2 σ2 hI2 => am_icmp_eq (pc := 878) 1038 dL_law_878 (by decide) (fun _ => k mem2 σ2 hI2) (fun q => absurd rfl q))) (fun r1 mem1 h1 => ?_)
  refine am_aload_n (pc := 869) 2 dL_law_869 rfl rfl ?_
  refine ls_ld (pc := 870) 1 (by decide) hL hi dL_law_870 dL_law_871 dL_law_872 dL_law_873 dL_law_874 rfl ?_
  refine am_callV (pc := 875) m7_shownAt 20 1 [.int (xs (i + 1))] (rest := [.int r1]) ok7_shownAt (by omega) rfl rfl sh30 (by decide) rfl lL_127 in7_shownAt se7_shownAt (Nat.le_of_ble_eq_true rfl) dL_law_875 ?_
  exact am_Ci.use h1 (fun r2 mem2 h2 => h2)
theorem lc_27 {L : Nat} {xs : Nat → Int32} {i : Nat} {mem : am_Mem} {σ : mp_S} {Q : Option Value → am_Mem → Prop} (hL : L ≤ 3072) (hi : i + 6 ≤ L) (hI : Inv mem σ) (k : ∀ mem' σ', Inv mem' σ' → am_J (ML L xs) 21 1038 (lwl i) [] mem' Q) : am_J (ML L xs) 21 883 (lwl i) [] mem Q := by
  refine am_aload_n (pc := 883) 1 dL_law_883 rfl rfl ?_
  refine ls_ld (pc := 884) 1 (by decide) hL hi dL_law_884 dL_law_885 dL_law_886 dL_law_887 dL_law_888 rfl ?_
  refine am_callV (pc := 889) m6_crosses 20 1 [.int (xs (i + 1))] (rest := []) ok6_crosses (by omega) rfl rfl sh0 (by decide) rfl lL_128 in6_crosses se6_crosses (Nat.le_of_ble_eq_true rfl) dL_law_889 ?_
  refine am_Ci.use (pr_crosses hI (xs (i + 1)) (fun r1 r2 mem2 => am_J (ML L xs) 21 901 (lwl i) [.int r2, .int r1] mem2 Q) (fun r mem2 σ2 hI2 => am_icmp_eq (pc := 901) 1038 dL_law_901 (by decide) (fun _ => k mem2 σ2 hI2) (fun q => absurd rfl q))) (fun r1 mem1 h1 => ?_)
  refine am_aload_n (pc := 892) 2 dL_law_892 rfl rfl ?_
  refine ls_ld (pc := 893) 1 (by decide) hL hi dL_law_893 dL_law_894 dL_law_895 dL_law_896 dL_law_897 rfl ?_
  refine am_callV (pc := 898) m7_crosses 20 1 [.int (xs (i + 1))] (rest := [.int r1]) ok7_crosses (by omega) rfl rfl sh30 (by decide) rfl lL_131 in7_crosses se7_crosses (Nat.le_of_ble_eq_true rfl) dL_law_898 ?_
  exact am_Ci.use h1 (fun r2 mem2 h2 => h2)
theorem lc_28 {L : Nat} {xs : Nat → Int32} {i : Nat} {mem : am_Mem} {σ : mp_S} {Q : Option Value → am_Mem → Prop} (hL : L ≤ 3072) (hi : i + 6 ≤ L) (hI : Inv mem σ) (k : ∀ mem' σ', Inv mem' σ' → am_J (ML L xs) 21 1038 (lwl i) [] mem' Q) : am_J (ML L xs) 21 906 (lwl i) [] mem Q := by
  refine am_aload_n (pc := 906) 1 dL_law_906 rfl rfl ?_
  refine ls_ld (pc := 907) 1 (by decide) hL hi dL_law_907 dL_law_908 dL_law_909 dL_law_910 dL_law_911 rfl ?_
  refine am_callV (pc := 912) m6_length 20 1 [.int (xs (i + 1))] (rest := []) ok6_length (by omega) rfl rfl sh0 (by decide) rfl lL_132 in6_length se6_length (Nat.le_of_ble_eq_true rfl) dL_law_912 ?_
  refine am_Ci.use (pr_length hI (xs (i + 1)) (fun r1 r2 mem2 => am_J (ML L xs) 21 924 (lwl i) [.int r2, .int r1] mem2 Q) (fun r mem2 σ2 hI2 => am_icmp_eq (pc := 924) 1038 dL_law_924 (by decide) (fun _ => k mem2 σ2 hI2) (fun q => absurd rfl q))) (fun r1 mem1 h1 => ?_)
  refine am_aload_n (pc := 915) 2 dL_law_915 rfl rfl ?_
  refine ls_ld (pc := 916) 1 (by decide) hL hi dL_law_916 dL_law_917 dL_law_918 dL_law_919 dL_law_920 rfl ?_
  refine am_callV (pc := 921) m7_length 20 1 [.int (xs (i + 1))] (rest := [.int r1]) ok7_length (by omega) rfl rfl sh30 (by decide) rfl lL_135 in7_length se7_length (Nat.le_of_ble_eq_true rfl) dL_law_921 ?_
  exact am_Ci.use h1 (fun r2 mem2 h2 => h2)
theorem lc_29 {L : Nat} {xs : Nat → Int32} {i : Nat} {mem : am_Mem} {σ : mp_S} {Q : Option Value → am_Mem → Prop} (hL : L ≤ 3072) (hi : i + 6 ≤ L) (hI : Inv mem σ) (k : ∀ mem' σ', Inv mem' σ' → am_J (ML L xs) 21 1038 (lwl i) [] mem' Q) : am_J (ML L xs) 21 929 (lwl i) [] mem Q := by
  refine am_aload_n (pc := 929) 1 dL_law_929 rfl rfl ?_
  refine ls_ld (pc := 930) 1 (by decide) hL hi dL_law_930 dL_law_931 dL_law_932 dL_law_933 dL_law_934 rfl ?_
  refine ls_ld (pc := 935) 2 (by decide) hL hi dL_law_935 dL_law_936 dL_law_937 dL_law_938 dL_law_939 rfl ?_
  refine am_callV (pc := 940) m6_place 20 2 [.int (xs (i + 1)), .int (xs (i + 2))] (rest := []) ok6_place (by omega) rfl rfl sh0 (by decide) rfl lL_136 in6_place se6_place (Nat.le_of_ble_eq_true rfl) dL_law_940 ?_
  refine am_Ci.use (pr_place hI (xs (i + 1)) (xs (i + 2)) (fun r1 r2 mem2 => am_J (ML L xs) 21 957 (lwl i) [.int r2, .int r1] mem2 Q) (fun r mem2 σ2 hI2 => am_icmp_eq (pc := 957) 1038 dL_law_957 (by decide) (fun _ => k mem2 σ2 hI2) (fun q => absurd rfl q))) (fun r1 mem1 h1 => ?_)
  refine am_aload_n (pc := 943) 2 dL_law_943 rfl rfl ?_
  refine ls_ld (pc := 944) 1 (by decide) hL hi dL_law_944 dL_law_945 dL_law_946 dL_law_947 dL_law_948 rfl ?_
  refine ls_ld (pc := 949) 2 (by decide) hL hi dL_law_949 dL_law_950 dL_law_951 dL_law_952 dL_law_953 rfl ?_
  refine am_callV (pc := 954) m7_place 20 2 [.int (xs (i + 1)), .int (xs (i + 2))] (rest := [.int r1]) ok7_place (by omega) rfl rfl sh30 (by decide) rfl lL_139 in7_place se7_place (Nat.le_of_ble_eq_true rfl) dL_law_954 ?_
  exact am_Ci.use h1 (fun r2 mem2 h2 => h2)
theorem lc_30 {L : Nat} {xs : Nat → Int32} {i : Nat} {mem : am_Mem} {σ : mp_S} {Q : Option Value → am_Mem → Prop} (hL : L ≤ 3072) (hi : i + 6 ≤ L) (hI : Inv mem σ) (k : ∀ mem' σ', Inv mem' σ' → am_J (ML L xs) 21 1038 (lwl i) [] mem' Q) : am_J (ML L xs) 21 962 (lwl i) [] mem Q := by
  refine am_aload_n (pc := 962) 1 dL_law_962 rfl rfl ?_
  refine ls_ld (pc := 963) 1 (by decide) hL hi dL_law_963 dL_law_964 dL_law_965 dL_law_966 dL_law_967 rfl ?_
  refine ls_ld (pc := 968) 2 (by decide) hL hi dL_law_968 dL_law_969 dL_law_970 dL_law_971 dL_law_972 rfl ?_
  refine ls_ld (pc := 973) 3 (by decide) hL hi dL_law_973 dL_law_974 dL_law_975 dL_law_976 dL_law_977 rfl ?_
  refine ls_ld (pc := 978) 4 (by decide) hL hi dL_law_978 dL_law_979 dL_law_980 dL_law_981 dL_law_982 rfl ?_
  refine am_callV (pc := 983) m6_cross 20 4 [.int (xs (i + 1)), .int (xs (i + 2)), .int (xs (i + 3)), .int (xs (i + 4))] (rest := []) ok6_cross (by omega) rfl rfl sh0 (by decide) rfl lL_140 in6_cross se6_cross (Nat.le_of_ble_eq_true rfl) dL_law_983 ?_
  refine am_Ci.use (pr_cross hI (xs (i + 1)) (xs (i + 2)) (xs (i + 3)) (xs (i + 4)) (fun r1 r2 mem2 => am_J (ML L xs) 21 1010 (lwl i) [.int r2, .int r1] mem2 Q) (fun r mem2 σ2 hI2 => am_icmp_eq (pc := 1010) 1038 dL_law_1010 (by decide) (fun _ => k mem2 σ2 hI2) (fun q => absurd rfl q))) (fun r1 mem1 h1 => ?_)
  refine am_aload_n (pc := 986) 2 dL_law_986 rfl rfl ?_
  refine ls_ld (pc := 987) 1 (by decide) hL hi dL_law_987 dL_law_988 dL_law_989 dL_law_990 dL_law_991 rfl ?_
  refine ls_ld (pc := 992) 2 (by decide) hL hi dL_law_992 dL_law_993 dL_law_994 dL_law_995 dL_law_996 rfl ?_
  refine ls_ld (pc := 997) 3 (by decide) hL hi dL_law_997 dL_law_998 dL_law_999 dL_law_1000 dL_law_1001 rfl ?_
  refine ls_ld (pc := 1002) 4 (by decide) hL hi dL_law_1002 dL_law_1003 dL_law_1004 dL_law_1005 dL_law_1006 rfl ?_
  refine am_callV (pc := 1007) m7_cross 20 4 [.int (xs (i + 1)), .int (xs (i + 2)), .int (xs (i + 3)), .int (xs (i + 4))] (rest := [.int r1]) ok7_cross (by omega) rfl rfl sh30 (by decide) rfl lL_143 in7_cross se7_cross (Nat.le_of_ble_eq_true rfl) dL_law_1007 ?_
  exact am_Ci.use h1 (fun r2 mem2 h2 => h2)
theorem lc_31 {L : Nat} {xs : Nat → Int32} {i : Nat} {mem : am_Mem} {σ : mp_S} {Q : Option Value → am_Mem → Prop} (hL : L ≤ 3072) (hi : i + 6 ≤ L) (hI : Inv mem σ) (k : ∀ mem' σ', Inv mem' σ' → am_J (ML L xs) 21 1038 (lwl i) [] mem' Q) : am_J (ML L xs) 21 1015 (lwl i) [] mem Q := by
  refine am_aload_n (pc := 1015) 1 dL_law_1015 rfl rfl ?_
  refine ls_ld (pc := 1016) 1 (by decide) hL hi dL_law_1016 dL_law_1017 dL_law_1018 dL_law_1019 dL_law_1020 rfl ?_
  refine am_callV (pc := 1021) m6_count 20 1 [.int (xs (i + 1))] (rest := []) ok6_count (by omega) rfl rfl sh0 (by decide) rfl lL_144 in6_count se6_count (Nat.le_of_ble_eq_true rfl) dL_law_1021 ?_
  refine am_Ci.use (pr_count hI (xs (i + 1)) (fun r1 r2 mem2 => am_J (ML L xs) 21 1033 (lwl i) [.int r2, .int r1] mem2 Q) (fun r mem2 σ2 hI2 => am_icmp_eq (pc := 1033) 1038 dL_law_1033 (by decide) (fun _ => k mem2 σ2 hI2) (fun q => absurd rfl q))) (fun r1 mem1 h1 => ?_)
  refine am_aload_n (pc := 1024) 2 dL_law_1024 rfl rfl ?_
  refine ls_ld (pc := 1025) 1 (by decide) hL hi dL_law_1025 dL_law_1026 dL_law_1027 dL_law_1028 dL_law_1029 rfl ?_
  refine am_callV (pc := 1030) m7_count 20 1 [.int (xs (i + 1))] (rest := [.int r1]) ok7_count (by omega) rfl rfl sh30 (by decide) rfl lL_147 in7_count se7_count (Nat.le_of_ble_eq_true rfl) dL_law_1030 ?_
  exact am_Ci.use h1 (fun r2 mem2 h2 => h2)
set_option maxHeartbeats 4000000 in
theorem lw_loop {L : Nat} {xs : Nat → Int32} (hL : L ≤ 3072) : ∀ (n i : Nat) (mem : am_Mem) (σ : mp_S), L + 6 ≤ i + n → i ≤ L + 6 → Inv mem σ → am_J (ML L xs) 21 18 (lwl i) [] mem (fun v _ => v = some (.int 1)) := by
  intro n
  induction n using Nat.strongRecOn with
  | _ n ih =>
  intro i mem σ hn hi hI
  refine am_iload_n (pc := 18) 3 dL_law_18 rfl rfl (am_aload_n (pc := 19) 0 dL_law_19 rfl rfl (am_slen (pc := 20) (L := L) (xs := xs) rfl dL_law_20 (am_bipush (pc := 21) (v := 6) dL_law_21 rfl (am_isub (pc := 23) dL_law_23 ?_))))
  refine am_icmp_gt (pc := 24) 1044 dL_law_24 (by decide) (fun _ => ?_) (fun hle => ?_)
  · exact am_iconst (pc := 1044) (v := 1) dL_law_1044 rfl (am_zreturn (pc := 1045) rfl (Or.inr rfl) dL_law_1045 rfl)
  · have h6 : i + 6 ≤ L := by
      rw [Int32.lt_iff_toInt_lt, nI_toInt (by omega)] at hle
      have e : (Int32.ofNat L - 6).toInt = (L : Int) - 6 := by
        rw [show Int32.ofNat L = nI L from rfl, iz_nI, show (6 : Int32) = iz 6 from rfl, iz_sub, iz_toInt (by omega) (by omega)]
      omega
    have kk : ∀ mem' σ', Inv mem' σ' → am_J (ML L xs) 21 1038 (lwl i) [] mem' (fun v _ => v = some (.int 1)) := by
      intro mem' σ' hI'
      refine am_iincE (pc := 1038) (v := 6) (loc' := lwl (i + 6)) dL_law_1038 rfl rfl (Nat.le_of_ble_eq_true rfl) rfl ?_ (am_goto (pc := 1041) 18 dL_law_1041 (by decide) (ih (n - 6) (by omega) (i + 6) mem' σ' (by omega) (by omega) hI'))
      show [Value.ref 100, .ref 0, .ref 30, .int (nI i + 6)] = [.ref 100, .ref 0, .ref 30, .int (nI (i + 6))]
      rw [show (6 : Int32) = nI 6 from rfl, nI_add]
    refine am_aload_n (pc := 27) 0 dL_law_27 rfl rfl (am_iload_n (pc := 28) 3 dL_law_28 rfl rfl (am_sld (pc := 29) (L := L) (xs := xs) rfl (nI_in (by omega) (by omega)) dL_law_29 (am_bipush (pc := 30) (v := 31) dL_law_30 rfl (am_iand (pc := 32) dL_law_32 ?_))))
    refine am_table (pc := 33) dL_law_33 1038 (by decide) [176, 209, 272, 315, 374, 407, 440, 473, 526, 539, 562, 575, 588, 621, 644, 657, 670, 703, 726, 739, 752, 775, 788, 801, 814, 837, 860, 883, 906, 929, 962, 1015] (by decide) (by decide) (fun j t ht _ => ?_) (fun _ => kk mem σ hI)
    have hm := List.mem_of_getElem? ht
    simp only [List.mem_cons, List.not_mem_nil, or_false] at hm
    rcases hm with rfl | rfl | rfl | rfl | rfl | rfl | rfl | rfl | rfl | rfl | rfl | rfl | rfl | rfl | rfl | rfl | rfl | rfl | rfl | rfl | rfl | rfl | rfl | rfl | rfl | rfl | rfl | rfl | rfl | rfl | rfl | rfl
    · exact lc_0 hL h6 hI kk
    · exact lc_1 hL h6 hI kk
    · exact lc_2 hL h6 hI kk
    · exact lc_3 hL h6 hI kk
    · exact lc_4 hL h6 hI kk
    · exact lc_5 hL h6 hI kk
    · exact lc_6 hL h6 hI kk
    · exact lc_7 hL h6 hI kk
    · exact lc_8 hL h6 hI kk
    · exact lc_9 hL h6 hI kk
    · exact lc_10 hL h6 hI kk
    · exact lc_11 hL h6 hI kk
    · exact lc_12 hL h6 hI kk
    · exact lc_13 hL h6 hI kk
    · exact lc_14 hL h6 hI kk
    · exact lc_15 hL h6 hI kk
    · exact lc_16 hL h6 hI kk
    · exact lc_17 hL h6 hI kk
    · exact lc_18 hL h6 hI kk
    · exact lc_19 hL h6 hI kk
    · exact lc_20 hL h6 hI kk
    · exact lc_21 hL h6 hI kk
    · exact lc_22 hL h6 hI kk
    · exact lc_23 hL h6 hI kk
    · exact lc_24 hL h6 hI kk
    · exact lc_25 hL h6 hI kk
    · exact lc_26 hL h6 hI kk
    · exact lc_27 hL h6 hI kk
    · exact lc_28 hL h6 hI kk
    · exact lc_29 hL h6 hI kk
    · exact lc_30 hL h6 hI kk
    · exact lc_31 hL h6 hI kk
