theorem am_drop {M : am_M} {d pc : Nat} {loc st : List Value} {mem : am_Mem} {Qp : Option Value → am_Mem → Prop} (ks : List Nat) (k : am_J M d pc (ks.foldl (fun l i => l.set i .null) loc) st mem Qp) : am_J M d pc loc st mem Qp := by
  induction ks generalizing loc with
  | nil => exact k
  | cons i ks ih =>
    have k1 : am_J M d pc (loc.set i .null) st mem Qp := ih k
    intro p l e R s m args below meth c dC dI ad ca cells slots Z hC hE H locs ls hH hl
    refine k1 p l e R s m args below meth c dC dI ad ca cells slots Z hC hE H locs ls hH ⟨hl.1, hl.2.1, fun j v h1 h2 => ?_⟩
    by_cases hij : i = j
    · subst hij
      have hlt : i < loc.length := by
        have := (List.getElem?_eq_some_iff.mp h1).1
        simpa using this
      rw [List.getElem?_set_self hlt] at h1
      cases h1
      exact absurd rfl h2
    · rw [List.getElem?_set_ne hij] at h1
      exact hl.2.2 j v h1 h2
theorem am_istoreE {M : am_M} {d pc : Nat} {loc rest : List Value} {mem : am_Mem} {Qp : Option Value → am_Mem → Prop} {i : Nat} {x : Int32} {loc' : List Value} (hdg : decode M.2.1 pc = .ok (.istore i, 2)) (hi : i < M.2.2.1) (hcat : loc.all (fun w => w.category == 1) = true) (hloc : loc.set i (.int x) = loc') (k : am_J M d (pc + 2) loc' rest mem Qp) : am_J M d pc loc (.int x :: rest) mem Qp := am_istore hdg hi hcat (by rw [hloc]; exact k)
theorem am_istoreE_n {M : am_M} {d pc : Nat} {loc rest : List Value} {mem : am_Mem} {Qp : Option Value → am_Mem → Prop} {j : Fin 4} (i : Nat) {x : Int32} {loc' : List Value} (hdg : decode M.2.1 pc = .ok (.istore_n j, 1)) (hj : (j : Nat) = i) (hi : i < M.2.2.1) (hcat : loc.all (fun w => w.category == 1) = true) (hloc : loc.set i (.int x) = loc') (k : am_J M d (pc + 1) loc' rest mem Qp) : am_J M d pc loc (.int x :: rest) mem Qp := am_istore_n i hdg hj hi hcat (by rw [hloc]; exact k)
theorem am_iincE {M : am_M} {d pc : Nat} {loc rest : List Value} {mem : am_Mem} {Qp : Option Value → am_Mem → Prop} {i : Nat} {n : Int} {x v : Int32} {loc' : List Value} (hdg : decode M.2.1 pc = .ok (.iinc i n, 3)) (hx0 : loc[i]? = some (.int x)) (hv : Int32.ofInt n = v) (hi : i < M.2.2.1) (hcat : loc.all (fun w => w.category == 1) = true) (hloc : loc.set i (.int (x + v)) = loc') (k : am_J M d (pc + 3) loc' rest mem Qp) : am_J M d pc loc rest mem Qp := am_iinc hdg hx0 hv hi hcat (by rw [hloc]; exact k)
/-- a call that answers an int -/
def am_Ci (M : am_M) (d : Nat) (as : List Value) (mem : am_Mem) (P : Int32 → am_Mem → Prop) : Prop := am_Ct M d as mem (fun r mem' => ∃ x, r = some (.int x) ∧ P x mem')
def am_Cv (M : am_M) (d : Nat) (as : List Value) (mem : am_Mem) (P : am_Mem → Prop) : Prop := am_Ct M d as mem (fun r mem' => r = none ∧ P mem')
theorem am_Ci.use {M : am_M} {d : Nat} {as : List Value} {mem : am_Mem} {P : Int32 → am_Mem → Prop} {Q : Option Value → am_Mem → Prop} (h : am_Ci M d as mem P) (k : ∀ x mem', P x mem' → Q (some (.int x)) mem') : am_Ct M d as mem Q := am_Ct.mono h (fun r mem' hr => by
  obtain ⟨x, rfl, hp⟩ := hr
  exact k x mem' hp)
theorem am_Cv.use {M : am_M} {d : Nat} {as : List Value} {mem : am_Mem} {P : am_Mem → Prop} {Q : Option Value → am_Mem → Prop} (h : am_Cv M d as mem P) (k : ∀ mem', P mem' → Q none mem') : am_Ct M d as mem Q := am_Ct.mono h (fun r mem' hr => by
  obtain ⟨rfl, hp⟩ := hr
  exact k mem' hp)
theorem am_at {w : Cond} (i : Nat) (h : tables_1[i]? = some w) (hg : goodWord w = true) : w ∈ am_tbl := List.mem_filter.mpr ⟨List.mem_append_right _ (List.mem_of_getElem? h), hg⟩
theorem am_pr {w : Cond} (h : w ∈ k2_sels lw_privs) (hg : goodWord w = true) : w ∈ am_tbl := List.mem_filter.mpr ⟨List.mem_append_left _ h, hg⟩
theorem am_ats {ws : List Cond} (is : List Nat) (h : ws = is.filterMap (fun i => tables_1[i]?)) (hg : ws.all goodWord = true) : ∀ w ∈ ws, w ∈ am_tbl := by
  intro w hw
  refine List.mem_filter.mpr ⟨List.mem_append_right _ ?_, List.all_eq_true.mp hg w hw⟩
  rw [h] at hw
  obtain ⟨i, -, hi⟩ := List.mem_filterMap.mp hw
  exact List.mem_of_getElem? hi
theorem cl0 : am_cls 0 RX0 TX0 9 tyX0 := ⟨rfl, am_ats [109, 111, 113, 115, 117, 119, 121, 123, 125] (by decide +kernel) (by decide +kernel), tyX0_ok, nmX0⟩
theorem cl1 : am_cls 1 RX1 TX1 11 tyX1 := ⟨rfl, am_ats [69, 71, 73, 75, 77, 79, 81, 83, 85, 87, 89] (by decide +kernel) (by decide +kernel), tyX1_ok, nmX1⟩
theorem cl2 : am_cls 2 RX2 TX2 7 tyX2 := ⟨rfl, am_ats [217, 219, 221, 223, 225, 227, 229] (by decide +kernel) (by decide +kernel), tyX2_ok, nmX2⟩
theorem cl3 : am_cls 3 RX3 TX3 3 tyX3 := ⟨rfl, am_ats [171, 173, 175] (by decide +kernel) (by decide +kernel), tyX3_ok, nmX3⟩
theorem cl4 : am_cls 4 RX4 TX4 5 tyX4 := ⟨rfl, am_ats [191, 193, 195, 197, 199] (by decide +kernel) (by decide +kernel), tyX4_ok, nmX4⟩
theorem cl5 : am_cls 5 RX5 TX5 8 tyX5 := ⟨rfl, am_ats [144, 146, 148, 150, 152, 154, 156, 158] (by decide +kernel) (by decide +kernel), tyX5_ok, nmX5⟩
theorem cl6 : am_cls 6 RX6 TX6 6 tyX6 := ⟨rfl, am_ats [238, 240, 242, 244, 246, 248] (by decide +kernel) (by decide +kernel), tyX6_ok, nmX6⟩
theorem cl7 : am_cls 7 RX7 TX7 30 tyX7 := ⟨rfl, am_ats [649, 651, 653, 655, 657, 659, 661, 663, 665, 667, 669, 671, 673, 675, 677, 679, 681, 683, 685, 687, 689, 691, 693, 695, 697, 699, 701, 703, 705, 707] (by decide +kernel) (by decide +kernel), tyX7_ok, nmX7⟩
theorem sh0 : am_sh 0 = .inr (6, [some 1, some 8, some 15, some 20, some 22, some 26]) := rfl
theorem sh1 : am_sh 1 = .inr (1, [none, none, none, none, none, some 2, some 3, some 4, some 5, some 6, some 7]) := rfl
theorem sh2 : am_sh 2 = .inl (false, 8) := rfl
theorem sh3 : am_sh 3 = .inl (false, 8) := rfl
theorem sh4 : am_sh 4 = .inl (false, 8) := rfl
theorem sh5 : am_sh 5 = .inl (false, 8) := rfl
theorem sh6 : am_sh 6 = .inl (false, 8) := rfl
theorem sh7 : am_sh 7 = .inl (true, 32) := rfl
theorem sh8 : am_sh 8 = .inr (0, [some 1, none, none, some 9, some 10, some 11, some 12, some 13, some 14]) := rfl
theorem sh9 : am_sh 9 = .inl (false, 8) := rfl
theorem sh10 : am_sh 10 = .inl (false, 8) := rfl
theorem sh11 : am_sh 11 = .inl (false, 32) := rfl
theorem sh12 : am_sh 12 = .inl (false, 32) := rfl
theorem sh13 : am_sh 13 = .inl (false, 32) := rfl
theorem sh14 : am_sh 14 = .inl (false, 32) := rfl
theorem sh15 : am_sh 15 = .inr (5, [some 1, some 8, some 16, some 17, none, some 18, some 19, none]) := rfl
theorem sh16 : am_sh 16 = .inl (false, 32) := rfl
theorem sh17 : am_sh 17 = .inl (false, 32) := rfl
theorem sh18 : am_sh 18 = .inl (false, 8) := rfl
theorem sh19 : am_sh 19 = .inl (false, 8) := rfl
theorem sh20 : am_sh 20 = .inr (3, [some 1, some 8, some 21]) := rfl
theorem sh21 : am_sh 21 = .inl (false, 8) := rfl
theorem sh22 : am_sh 22 = .inr (4, [some 1, some 8, some 23, some 24, some 25]) := rfl
theorem sh23 : am_sh 23 = .inl (false, 8) := rfl
theorem sh24 : am_sh 24 = .inl (false, 8) := rfl
theorem sh25 : am_sh 25 = .inl (false, 8) := rfl
theorem sh26 : am_sh 26 = .inr (2, [some 1, none, some 27, some 28, some 29, none, none]) := rfl
theorem sh27 : am_sh 27 = .inl (false, 6) := rfl
theorem sh28 : am_sh 28 = .inl (false, 6) := rfl
theorem sh29 : am_sh 29 = .inl (false, 6) := rfl
theorem sh30 : am_sh 30 = .inr (7, [none, none, none, some 31, some 32, some 33, some 34, some 35, some 36, some 37, none, none, none, none, some 38, some 39, none, some 40, some 41, none, none, some 42, some 43, some 44, some 45, some 46, some 47, none, none, none]) := rfl
theorem sh31 : am_sh 31 = .inl (false, 8) := rfl
theorem sh32 : am_sh 32 = .inl (false, 8) := rfl
theorem sh33 : am_sh 33 = .inl (false, 8) := rfl
theorem sh34 : am_sh 34 = .inl (false, 8) := rfl
theorem sh35 : am_sh 35 = .inl (false, 8) := rfl
theorem sh36 : am_sh 36 = .inl (false, 8) := rfl
theorem sh37 : am_sh 37 = .inl (false, 8) := rfl
theorem sh38 : am_sh 38 = .inl (false, 8) := rfl
theorem sh39 : am_sh 39 = .inl (false, 8) := rfl
theorem sh40 : am_sh 40 = .inl (false, 32) := rfl
theorem sh41 : am_sh 41 = .inl (false, 9) := rfl
theorem sh42 : am_sh 42 = .inl (false, 32) := rfl
theorem sh43 : am_sh 43 = .inl (false, 8) := rfl
theorem sh44 : am_sh 44 = .inl (false, 8) := rfl
theorem sh45 : am_sh 45 = .inl (false, 6) := rfl
theorem sh46 : am_sh 46 = .inl (false, 6) := rfl
theorem sh47 : am_sh 47 = .inl (false, 6) := rfl
abbrev mJ6_bitCount_0f7a4 : am_M := (yJ6_bitCount_0f7a4, cJ6_bitCount_0f7a4, 1, some .int, none)
abbrev mJ9_abs_0f7a4 : am_M := (yJ9_abs_0f7a4, cJ9_abs_0f7a4, 1, some .int, none)
abbrev mJ9_max_7cf53 : am_M := (yJ9_max_7cf53, cJ9_max_7cf53, 2, some .int, none)
abbrev mJ9_min_7cf53 : am_M := (yJ9_min_7cf53, cJ9_min_7cf53, 2, some .int, none)
abbrev m0_doClash : am_M := (yX0_doClash, cX0_doClash, 3, some .boolean, none)
abbrev m0_isFree : am_M := (yX0_isFree, cX0_isFree, 2, some .boolean, none)
abbrev m0_mayStand : am_M := (yX0_mayStand, cX0_mayStand, 2, some .boolean, none)
abbrev m0_measure : am_M := (yX0_measure, cX0_measure, 8, none, none)
abbrev m0_sitesWithin : am_M := (yX0_sitesWithin, cX0_sitesWithin, 4, some .int, none)
abbrev m1_add : am_M := (yX1_add, cX1_add, 8, some .int, none)
abbrev m1_everySite : am_M := (yX1_everySite, cX1_everySite, 1, some .int, none)
abbrev m1_has : am_M := (yX1_has, cX1_has, 2, some .boolean, none)
abbrev m1_holds : am_M := (yX1_holds, cX1_holds, 3, some .boolean, none)
abbrev m1_isSetForLines : am_M := (yX1_isSetForLines, cX1_isSetForLines, 2, some .boolean, none)
abbrev m1_worthOf : am_M := (yX1_worthOf, cX1_worthOf, 4, some .int, none)
abbrev m2_crossedBefore : am_M := (yX2_crossedBefore, cX2_crossedBefore, 4, some .int, none)
abbrev m2_deal : am_M := (yX2_deal, cX2_deal, 3, none, none)
abbrev m2_doCross : am_M := (yX2_doCross, cX2_doCross, 5, some .boolean, none)
abbrev m2_doFirstPartsMeet : am_M := (yX2_doFirstPartsMeet, cX2_doFirstPartsMeet, 5, some .boolean, none)
abbrev m2_heightOf : am_M := (yX2_heightOf, cX2_heightOf, 2, some .int, none)
abbrev m2_isFirstPartMet : am_M := (yX2_isFirstPartMet, cX2_isFirstPartMet, 5, some .boolean, none)
abbrev m2_lengthOf : am_M := (yX2_lengthOf, cX2_lengthOf, 3, some .int, none)
abbrev m2_placeOf : am_M := (yX2_placeOf, cX2_placeOf, 3, some .int, none)
abbrev m2_seekDeal : am_M := (yX2_seekDeal, cX2_seekDeal, 6, none, none)
abbrev m3_countFaults : am_M := (yX3_countFaults, cX3_countFaults, 4, some .int, none)
abbrev m3_mendMost : am_M := (yX3_mendMost, cX3_mendMost, 8, some .int, none)
abbrev m3_ownFault : am_M := (yX3_ownFault, cX3_ownFault, 2, some .int, none)
abbrev m3_sharedFault : am_M := (yX3_sharedFault, cX3_sharedFault, 3, some .int, none)
abbrev m4_clashesWithShown : am_M := (yX4_clashesWithShown, cX4_clashesWithShown, 3, some .boolean, none)
abbrev m4_grow : am_M := (yX4_grow, cX4_grow, 4, none, none)
abbrev m4_show : am_M := (yX4_show, cX4_show, 5, none, none)
abbrev m4_sortByWorth : am_M := (yX4_sortByWorth, cX4_sortByWorth, 3, none, none)
abbrev m5_clashingWith : am_M := (yX5_clashingWith, cX5_clashingWith, 5, some .int, none)
abbrev m5_countClashes : am_M := (yX5_countClashes, cX5_countClashes, 4, some .int, none)
abbrev m5_countFrom : am_M := (yX5_countFrom, cX5_countFrom, 9, some .int, none)
abbrev m5_countFull : am_M := (yX5_countFull, cX5_countFull, 1, some .int, none)
abbrev m5_countFullWith : am_M := (yX5_countFullWith, cX5_countFullWith, 3, some .int, none)
abbrev m5_findBest : am_M := (yX5_findBest, cX5_findBest, 1, none, none)
abbrev m5_freeBoxes : am_M := (yX5_freeBoxes, cX5_freeBoxes, 6, some .int, none)
abbrev m5_freeBoxesWith : am_M := (yX5_freeBoxesWith, cX5_freeBoxesWith, 3, some .int, none)
abbrev m5_isFullFrom : am_M := (yX5_isFullFrom, cX5_isFullFrom, 9, some .boolean, none)
abbrev m5_isThereFull : am_M := (yX5_isThereFull, cX5_isThereFull, 2, some .boolean, none)
abbrev m5_isThereFullWith : am_M := (yX5_isThereFullWith, cX5_isThereFullWith, 3, some .boolean, none)
abbrev m5_seekBest : am_M := (yX5_seekBest, cX5_seekBest, 10, none, none)
abbrev m5_study : am_M := (yX5_study, cX5_study, 4, none, none)
abbrev m6_about : am_M := (yX6_about, cX6_about, 3, some .int, none)
abbrev m6_allow : am_M := (yX6_allow, cX6_allow, 6, some .int, none)
abbrev m6_at : am_M := (yX6_at, cX6_at, 2, some .int, none)
abbrev m6_best : am_M := (yX6_best, cX6_best, 1, some .int, none)
abbrev m6_boxOf : am_M := (yX6_boxOf, cX6_boxOf, 2, some .int, none)
abbrev m6_boxesOf : am_M := (yX6_boxesOf, cX6_boxesOf, 1, some .int, none)
abbrev m6_clash : am_M := (yX6_clash, cX6_clash, 5, some .int, none)
abbrev m6_comes : am_M := (yX6_comes, cX6_comes, 2, some .int, none)
abbrev m6_count : am_M := (yX6_count, cX6_count, 2, some .int, none)
abbrev m6_cross : am_M := (yX6_cross, cX6_cross, 5, some .int, none)
abbrev m6_crosses : am_M := (yX6_crosses, cX6_crosses, 2, some .int, none)
abbrev m6_faults : am_M := (yX6_faults, cX6_faults, 1, some .int, none)
abbrev m6_faultsOf : am_M := (yX6_faultsOf, cX6_faultsOf, 4, some .int, none)
abbrev m6_free : am_M := (yX6_free, cX6_free, 3, some .int, none)
abbrev m6_full : am_M := (yX6_full, cX6_full, 1, some .int, none)
abbrev m6_greatest : am_M := (yX6_greatest, cX6_greatest, 2, some .int, none)
abbrev m6_hand : am_M := (yX6_hand, cX6_hand, 2, some .int, none)
abbrev m6_hasBit : am_M := (yX6_hasBit, cX6_hasBit, 2, some .boolean, none)
abbrev m6_isCorner : am_M := (yX6_isCorner, cX6_isCorner, 1, some .boolean, none)
abbrev m6_isIn : am_M := (yX6_isIn, cX6_isIn, 3, some .boolean, none)
abbrev m6_least : am_M := (yX6_least, cX6_least, 5, some .int, none)
abbrev m6_length : am_M := (yX6_length, cX6_length, 2, some .int, none)
abbrev m6_map : am_M := (yX6_map, cX6_map, 3, some .int, none)
abbrev m6_move : am_M := (yX6_move, cX6_move, 5, some .int, none)
abbrev m6_named : am_M := (yX6_named, cX6_named, 3, some .int, none)
abbrev m6_place : am_M := (yX6_place, cX6_place, 3, some .int, none)
abbrev m6_put : am_M := (yX6_put, cX6_put, 4, some .int, none)
abbrev m6_rule : am_M := (yX6_rule, cX6_rule, 4, some .int, none)
abbrev m6_settle : am_M := (yX6_settle, cX6_settle, 2, some .int, none)
abbrev m6_shown : am_M := (yX6_shown, cX6_shown, 4, some .int, none)
abbrev m6_shownAt : am_M := (yX6_shownAt, cX6_shownAt, 2, some .int, none)
abbrev m6_site : am_M := (yX6_site, cX6_site, 7, some .int, none)
abbrev m6_sized : am_M := (yX6_sized, cX6_sized, 2, some .int, none)
abbrev m6_stands : am_M := (yX6_stands, cX6_stands, 1, some .int, none)
abbrev m6_stir : am_M := (yX6_stir, cX6_stir, 1, some .int, none)
abbrev m6_sure : am_M := (yX6_sure, cX6_sure, 4, some .int, none)
abbrev m6_take : am_M := (yX6_take, cX6_take, 3, some .int, none)
abbrev m6_toInt : am_M := (yX6_toInt, cX6_toInt, 1, some .int, none)
abbrev m6_with : am_M := (yX6_with, cX6_with, 3, some .int, none)
abbrev m7_about : am_M := (yX7_about, cX7_about, 3, some .int, none)
abbrev m7_allow : am_M := (yX7_allow, cX7_allow, 5, some .int, none)
abbrev m7_at : am_M := (yX7_at, cX7_at, 2, some .int, none)
abbrev m7_best : am_M := (yX7_best, cX7_best, 1, some .int, none)
abbrev m7_boxed : am_M := (yX7_boxed, cX7_boxed, 3, some .int, none)
abbrev m7_clash : am_M := (yX7_clash, cX7_clash, 5, some .int, none)
abbrev m7_clashes : am_M := (yX7_clashes, cX7_clashes, 11, some .boolean, none)
abbrev m7_comes : am_M := (yX7_comes, cX7_comes, 2, some .int, none)
abbrev m7_count : am_M := (yX7_count, cX7_count, 6, some .int, none)
abbrev m7_cross : am_M := (yX7_cross, cX7_cross, 5, some .int, none)
abbrev m7_crosses : am_M := (yX7_crosses, cX7_crosses, 2, some .int, none)
abbrev m7_faults : am_M := (yX7_faults, cX7_faults, 1, some .int, none)
abbrev m7_faultsNow : am_M := (yX7_faultsNow, cX7_faultsNow, 4, some .int, none)
abbrev m7_faultsOf : am_M := (yX7_faultsOf, cX7_faultsOf, 2, some .int, none)
abbrev m7_faultsWith : am_M := (yX7_faultsWith, cX7_faultsWith, 4, some .int, none)
abbrev m7_free : am_M := (yX7_free, cX7_free, 3, some .int, none)
abbrev m7_full : am_M := (yX7_full, cX7_full, 2, some .int, none)
abbrev m7_greatest : am_M := (yX7_greatest, cX7_greatest, 4, some .int, none)
abbrev m7_hand : am_M := (yX7_hand, cX7_hand, 2, some .int, none)
abbrev m7_in : am_M := (yX7_in, cX7_in, 6, some .boolean, none)
abbrev m7_isBetween : am_M := (yX7_isBetween, cX7_isBetween, 3, some .boolean, none)
abbrev m7_isCorner : am_M := (yX7_isCorner, cX7_isCorner, 1, some .boolean, none)
abbrev m7_isDeal : am_M := (yX7_isDeal, cX7_isDeal, 3, some .boolean, none)
abbrev m7_isFree : am_M := (yX7_isFree, cX7_isFree, 10, some .boolean, none)
abbrev m7_isSet : am_M := (yX7_isSet, cX7_isSet, 4, some .boolean, none)
abbrev m7_isSite : am_M := (yX7_isSite, cX7_isSite, 2, some .boolean, none)
abbrev m7_layBest : am_M := (yX7_layBest, cX7_layBest, 4, none, none)
abbrev m7_layBits : am_M := (yX7_layBits, cX7_layBits, 5, none, none)
abbrev m7_layDeal : am_M := (yX7_layDeal, cX7_layDeal, 6, none, none)
abbrev m7_layFull : am_M := (yX7_layFull, cX7_layFull, 4, some .boolean, none)
abbrev m7_layLevels : am_M := (yX7_layLevels, cX7_layLevels, 4, none, none)
abbrev m7_least : am_M := (yX7_least, cX7_least, 5, some .int, none)
abbrev m7_left : am_M := (yX7_left, cX7_left, 3, some .int, none)
abbrev m7_length : am_M := (yX7_length, cX7_length, 2, some .int, none)
abbrev m7_lengthOf : am_M := (yX7_lengthOf, cX7_lengthOf, 4, some .int, none)
abbrev m7_lineCrosses : am_M := (yX7_lineCrosses, cX7_lineCrosses, 8, some .boolean, none)
abbrev m7_low : am_M := (yX7_low, cX7_low, 3, some .int, none)
abbrev m7_map : am_M := (yX7_map, cX7_map, 3, some .int, none)
abbrev m7_mayShow : am_M := (yX7_mayShow, cX7_mayShow, 5, some .boolean, none)
abbrev m7_move : am_M := (yX7_move, cX7_move, 5, some .int, none)
abbrev m7_named : am_M := (yX7_named, cX7_named, 3, some .int, none)
abbrev m7_nextCorner : am_M := (yX7_nextCorner, cX7_nextCorner, 4, some .int, none)
abbrev m7_place : am_M := (yX7_place, cX7_place, 4, some .int, none)
abbrev m7_put : am_M := (yX7_put, cX7_put, 4, some .int, none)
abbrev m7_rule : am_M := (yX7_rule, cX7_rule, 4, some .int, none)
abbrev m7_settle : am_M := (yX7_settle, cX7_settle, 2, some .int, none)
abbrev m7_show : am_M := (yX7_show, cX7_show, 4, none, none)
abbrev m7_shown : am_M := (yX7_shown, cX7_shown, 4, some .int, none)
abbrev m7_shownAt : am_M := (yX7_shownAt, cX7_shownAt, 2, some .int, none)
abbrev m7_site : am_M := (yX7_site, cX7_site, 6, some .int, none)
abbrev m7_stands : am_M := (yX7_stands, cX7_stands, 1, some .int, none)
abbrev m7_step : am_M := (yX7_step, cX7_step, 2, some .int, none)
abbrev m7_stir : am_M := (yX7_stir, cX7_stir, 1, some .int, none)
abbrev m7_stirOnce : am_M := (yX7_stirOnce, cX7_stirOnce, 7, some .int, none)
abbrev m7_sure : am_M := (yX7_sure, cX7_sure, 3, some .int, none)
abbrev m7_take : am_M := (yX7_take, cX7_take, 3, some .int, none)
abbrev m7_weigh : am_M := (yX7_weigh, cX7_weigh, 6, none, none)
abbrev m7_with : am_M := (yX7_with, cX7_with, 4, some .int, none)
theorem okJ6_bitCount_0f7a4 : am_ok mJ6_bitCount_0f7a4 1 := ⟨am_at 538 (by decide +kernel) (by decide +kernel), am_at 11 (by decide +kernel) (by decide +kernel), by decide +kernel, by decide⟩
theorem stJ6_bitCount_0f7a4 : Cond.static yJ6_bitCount_0f7a4 ∈ am_tbl := am_at 537 (by decide +kernel) (by decide +kernel)
theorem ok0_doClash : am_ok m0_doClash 2 := ⟨am_at 336 (by decide +kernel) (by decide +kernel), am_at 3 (by decide +kernel) (by decide +kernel), by decide +kernel, by decide⟩
theorem in0_doClash : Cond.instanceMethod yX0_doClash ∈ am_tbl := am_at 334 (by decide +kernel) (by decide +kernel)
theorem se0_doClash : Cond.selects RX0 yX0_doClash yX0_doClash ∈ am_tbl := am_at 335 (by decide +kernel) (by decide +kernel)
theorem ok0_isFree : am_ok m0_isFree 1 := ⟨am_at 320 (by decide +kernel) (by decide +kernel), am_at 3 (by decide +kernel) (by decide +kernel), by decide +kernel, by decide⟩
theorem in0_isFree : Cond.instanceMethod yX0_isFree ∈ am_tbl := am_at 318 (by decide +kernel) (by decide +kernel)
theorem se0_isFree : Cond.selects RX0 yX0_isFree yX0_isFree ∈ am_tbl := am_at 319 (by decide +kernel) (by decide +kernel)
theorem ok0_mayStand : am_ok m0_mayStand 1 := ⟨am_at 324 (by decide +kernel) (by decide +kernel), am_at 3 (by decide +kernel) (by decide +kernel), by decide +kernel, by decide⟩
theorem in0_mayStand : Cond.instanceMethod yX0_mayStand ∈ am_tbl := am_at 322 (by decide +kernel) (by decide +kernel)
theorem se0_mayStand : Cond.selects RX0 yX0_mayStand yX0_mayStand ∈ am_tbl := am_at 323 (by decide +kernel) (by decide +kernel)
theorem ok0_measure : am_ok m0_measure 2 := ⟨am_at 314 (by decide +kernel) (by decide +kernel), am_at 3 (by decide +kernel) (by decide +kernel), by decide +kernel, by decide⟩
theorem in0_measure : Cond.instanceMethod yX0_measure ∈ am_tbl := am_at 312 (by decide +kernel) (by decide +kernel)
theorem se0_measure : Cond.selects RX0 yX0_measure yX0_measure ∈ am_tbl := am_at 313 (by decide +kernel) (by decide +kernel)
theorem ok0_sitesWithin : am_ok m0_sitesWithin 1 := ⟨am_at 328 (by decide +kernel) (by decide +kernel), am_at 3 (by decide +kernel) (by decide +kernel), by decide +kernel, by decide⟩
theorem in0_sitesWithin : Cond.instanceMethod yX0_sitesWithin ∈ am_tbl := am_at 326 (by decide +kernel) (by decide +kernel)
theorem se0_sitesWithin : Cond.selects RX0 yX0_sitesWithin yX0_sitesWithin ∈ am_tbl := am_at 327 (by decide +kernel) (by decide +kernel)
theorem ok1_add : am_ok m1_add 5 := ⟨am_at 270 (by decide +kernel) (by decide +kernel), am_at 2 (by decide +kernel) (by decide +kernel), by decide +kernel, by decide⟩
theorem in1_add : Cond.instanceMethod yX1_add ∈ am_tbl := am_at 268 (by decide +kernel) (by decide +kernel)
theorem se1_add : Cond.selects RX1 yX1_add yX1_add ∈ am_tbl := am_at 269 (by decide +kernel) (by decide +kernel)
theorem ok1_everySite : am_ok m1_everySite 0 := ⟨am_at 360 (by decide +kernel) (by decide +kernel), am_at 2 (by decide +kernel) (by decide +kernel), by decide +kernel, by decide⟩
theorem in1_everySite : Cond.instanceMethod yX1_everySite ∈ am_tbl := am_at 358 (by decide +kernel) (by decide +kernel)
theorem se1_everySite : Cond.selects RX1 yX1_everySite yX1_everySite ∈ am_tbl := am_at 359 (by decide +kernel) (by decide +kernel)
theorem ok1_has : am_ok m1_has 1 := ⟨am_at 281 (by decide +kernel) (by decide +kernel), am_at 2 (by decide +kernel) (by decide +kernel), by decide +kernel, by decide⟩
theorem in1_has : Cond.instanceMethod yX1_has ∈ am_tbl := am_at 279 (by decide +kernel) (by decide +kernel)
theorem se1_has : Cond.selects RX1 yX1_has yX1_has ∈ am_tbl := am_at 280 (by decide +kernel) (by decide +kernel)
theorem ok1_holds : am_ok m1_holds 2 := ⟨am_at 265 (by decide +kernel) (by decide +kernel), am_at 2 (by decide +kernel) (by decide +kernel), by decide +kernel, by decide⟩
theorem in1_holds : Cond.instanceMethod yX1_holds ∈ am_tbl := am_at 263 (by decide +kernel) (by decide +kernel)
theorem se1_holds : Cond.selects RX1 yX1_holds yX1_holds ∈ am_tbl := am_at 264 (by decide +kernel) (by decide +kernel)
theorem ok1_isSetForLines : am_ok m1_isSetForLines 1 := ⟨am_at 534 (by decide +kernel) (by decide +kernel), am_at 2 (by decide +kernel) (by decide +kernel), by decide +kernel, by decide⟩
theorem in1_isSetForLines : Cond.instanceMethod yX1_isSetForLines ∈ am_tbl := am_at 532 (by decide +kernel) (by decide +kernel)
theorem se1_isSetForLines : Cond.selects RX1 yX1_isSetForLines yX1_isSetForLines ∈ am_tbl := am_at 533 (by decide +kernel) (by decide +kernel)
theorem ok1_worthOf : am_ok m1_worthOf 1 := ⟨am_at 372 (by decide +kernel) (by decide +kernel), am_at 2 (by decide +kernel) (by decide +kernel), by decide +kernel, by decide⟩
theorem in1_worthOf : Cond.instanceMethod yX1_worthOf ∈ am_tbl := am_at 370 (by decide +kernel) (by decide +kernel)
theorem se1_worthOf : Cond.selects RX1 yX1_worthOf yX1_worthOf ∈ am_tbl := am_at 371 (by decide +kernel) (by decide +kernel)
theorem ok2_crossedBefore : am_ok m2_crossedBefore 1 := ⟨am_at 555 (by decide +kernel) (by decide +kernel), am_at 7 (by decide +kernel) (by decide +kernel), by decide +kernel, by decide⟩
theorem in2_crossedBefore : Cond.instanceMethod yX2_crossedBefore ∈ am_tbl := am_at 554 (by decide +kernel) (by decide +kernel)
theorem se2_crossedBefore : Cond.selects RX2 yX2_crossedBefore yX2_crossedBefore ∈ am_tbl := am_pr (by decide +kernel) (by decide +kernel)
theorem ok2_deal : am_ok m2_deal 1 := ⟨am_at 545 (by decide +kernel) (by decide +kernel), am_at 7 (by decide +kernel) (by decide +kernel), by decide +kernel, by decide⟩
theorem in2_deal : Cond.instanceMethod yX2_deal ∈ am_tbl := am_at 543 (by decide +kernel) (by decide +kernel)
theorem se2_deal : Cond.selects RX2 yX2_deal yX2_deal ∈ am_tbl := am_at 544 (by decide +kernel) (by decide +kernel)
theorem ok2_doCross : am_ok m2_doCross 4 := ⟨am_at 563 (by decide +kernel) (by decide +kernel), am_at 7 (by decide +kernel) (by decide +kernel), by decide +kernel, by decide⟩
theorem in2_doCross : Cond.instanceMethod yX2_doCross ∈ am_tbl := am_at 561 (by decide +kernel) (by decide +kernel)
theorem se2_doCross : Cond.selects RX2 yX2_doCross yX2_doCross ∈ am_tbl := am_at 562 (by decide +kernel) (by decide +kernel)
theorem ok2_doFirstPartsMeet : am_ok m2_doFirstPartsMeet 4 := ⟨am_at 575 (by decide +kernel) (by decide +kernel), am_at 7 (by decide +kernel) (by decide +kernel), by decide +kernel, by decide⟩
theorem in2_doFirstPartsMeet : Cond.instanceMethod yX2_doFirstPartsMeet ∈ am_tbl := am_at 574 (by decide +kernel) (by decide +kernel)
theorem se2_doFirstPartsMeet : Cond.selects RX2 yX2_doFirstPartsMeet yX2_doFirstPartsMeet ∈ am_tbl := am_pr (by decide +kernel) (by decide +kernel)
theorem ok2_heightOf : am_ok m2_heightOf 1 := ⟨am_at 559 (by decide +kernel) (by decide +kernel), am_at 7 (by decide +kernel) (by decide +kernel), by decide +kernel, by decide⟩
theorem in2_heightOf : Cond.instanceMethod yX2_heightOf ∈ am_tbl := am_at 558 (by decide +kernel) (by decide +kernel)
theorem se2_heightOf : Cond.selects RX2 yX2_heightOf yX2_heightOf ∈ am_tbl := am_pr (by decide +kernel) (by decide +kernel)
theorem ok2_isFirstPartMet : am_ok m2_isFirstPartMet 4 := ⟨am_at 567 (by decide +kernel) (by decide +kernel), am_at 7 (by decide +kernel) (by decide +kernel), by decide +kernel, by decide⟩
theorem in2_isFirstPartMet : Cond.instanceMethod yX2_isFirstPartMet ∈ am_tbl := am_at 566 (by decide +kernel) (by decide +kernel)
theorem se2_isFirstPartMet : Cond.selects RX2 yX2_isFirstPartMet yX2_isFirstPartMet ∈ am_tbl := am_pr (by decide +kernel) (by decide +kernel)
theorem ok2_lengthOf : am_ok m2_lengthOf 1 := ⟨am_at 580 (by decide +kernel) (by decide +kernel), am_at 7 (by decide +kernel) (by decide +kernel), by decide +kernel, by decide⟩
theorem in2_lengthOf : Cond.instanceMethod yX2_lengthOf ∈ am_tbl := am_at 579 (by decide +kernel) (by decide +kernel)
theorem se2_lengthOf : Cond.selects RX2 yX2_lengthOf yX2_lengthOf ∈ am_tbl := am_pr (by decide +kernel) (by decide +kernel)
theorem ok2_placeOf : am_ok m2_placeOf 1 := ⟨am_at 596 (by decide +kernel) (by decide +kernel), am_at 7 (by decide +kernel) (by decide +kernel), by decide +kernel, by decide⟩
theorem in2_placeOf : Cond.instanceMethod yX2_placeOf ∈ am_tbl := am_at 594 (by decide +kernel) (by decide +kernel)
theorem se2_placeOf : Cond.selects RX2 yX2_placeOf yX2_placeOf ∈ am_tbl := am_at 595 (by decide +kernel) (by decide +kernel)
theorem ok2_seekDeal : am_ok m2_seekDeal 5 := ⟨am_at 550 (by decide +kernel) (by decide +kernel), am_at 7 (by decide +kernel) (by decide +kernel), by decide +kernel, by decide⟩
theorem st2_seekDeal : Cond.static yX2_seekDeal ∈ am_tbl := am_at 549 (by decide +kernel) (by decide +kernel)
theorem ok3_countFaults : am_ok m3_countFaults 0 := ⟨am_at 459 (by decide +kernel) (by decide +kernel), am_at 5 (by decide +kernel) (by decide +kernel), by decide +kernel, by decide⟩
theorem in3_countFaults : Cond.instanceMethod yX3_countFaults ∈ am_tbl := am_at 457 (by decide +kernel) (by decide +kernel)
theorem se3_countFaults : Cond.selects RX3 yX3_countFaults yX3_countFaults ∈ am_tbl := am_at 458 (by decide +kernel) (by decide +kernel)
theorem ok3_mendMost : am_ok m3_mendMost 0 := ⟨am_at 485 (by decide +kernel) (by decide +kernel), am_at 5 (by decide +kernel) (by decide +kernel), by decide +kernel, by decide⟩
theorem in3_mendMost : Cond.instanceMethod yX3_mendMost ∈ am_tbl := am_at 483 (by decide +kernel) (by decide +kernel)
theorem se3_mendMost : Cond.selects RX3 yX3_mendMost yX3_mendMost ∈ am_tbl := am_at 484 (by decide +kernel) (by decide +kernel)
theorem ok3_ownFault : am_ok m3_ownFault 1 := ⟨am_at 463 (by decide +kernel) (by decide +kernel), am_at 5 (by decide +kernel) (by decide +kernel), by decide +kernel, by decide⟩
theorem in3_ownFault : Cond.instanceMethod yX3_ownFault ∈ am_tbl := am_at 461 (by decide +kernel) (by decide +kernel)
theorem se3_ownFault : Cond.selects RX3 yX3_ownFault yX3_ownFault ∈ am_tbl := am_at 462 (by decide +kernel) (by decide +kernel)
theorem ok3_sharedFault : am_ok m3_sharedFault 2 := ⟨am_at 470 (by decide +kernel) (by decide +kernel), am_at 5 (by decide +kernel) (by decide +kernel), by decide +kernel, by decide⟩
theorem in3_sharedFault : Cond.instanceMethod yX3_sharedFault ∈ am_tbl := am_at 468 (by decide +kernel) (by decide +kernel)
theorem se3_sharedFault : Cond.selects RX3 yX3_sharedFault yX3_sharedFault ∈ am_tbl := am_at 469 (by decide +kernel) (by decide +kernel)
theorem ok4_clashesWithShown : am_ok m4_clashesWithShown 1 := ⟨am_at 517 (by decide +kernel) (by decide +kernel), am_at 6 (by decide +kernel) (by decide +kernel), by decide +kernel, by decide⟩
theorem in4_clashesWithShown : Cond.instanceMethod yX4_clashesWithShown ∈ am_tbl := am_at 516 (by decide +kernel) (by decide +kernel)
theorem se4_clashesWithShown : Cond.selects RX4 yX4_clashesWithShown yX4_clashesWithShown ∈ am_tbl := am_pr (by decide +kernel) (by decide +kernel)
theorem ok4_grow : am_ok m4_grow 0 := ⟨am_at 502 (by decide +kernel) (by decide +kernel), am_at 6 (by decide +kernel) (by decide +kernel), by decide +kernel, by decide⟩
theorem in4_grow : Cond.instanceMethod yX4_grow ∈ am_tbl := am_at 500 (by decide +kernel) (by decide +kernel)
theorem se4_grow : Cond.selects RX4 yX4_grow yX4_grow ∈ am_tbl := am_at 501 (by decide +kernel) (by decide +kernel)
theorem ok4_show : am_ok m4_show 2 := ⟨am_at 511 (by decide +kernel) (by decide +kernel), am_at 6 (by decide +kernel) (by decide +kernel), by decide +kernel, by decide⟩
theorem in4_show : Cond.instanceMethod yX4_show ∈ am_tbl := am_at 510 (by decide +kernel) (by decide +kernel)
theorem se4_show : Cond.selects RX4 yX4_show yX4_show ∈ am_tbl := am_pr (by decide +kernel) (by decide +kernel)
theorem ok4_sortByWorth : am_ok m4_sortByWorth 0 := ⟨am_at 506 (by decide +kernel) (by decide +kernel), am_at 6 (by decide +kernel) (by decide +kernel), by decide +kernel, by decide⟩
theorem in4_sortByWorth : Cond.instanceMethod yX4_sortByWorth ∈ am_tbl := am_at 505 (by decide +kernel) (by decide +kernel)
theorem se4_sortByWorth : Cond.selects RX4 yX4_sortByWorth yX4_sortByWorth ∈ am_tbl := am_pr (by decide +kernel) (by decide +kernel)
theorem ok5_clashingWith : am_ok m5_clashingWith 2 := ⟨am_at 354 (by decide +kernel) (by decide +kernel), am_at 4 (by decide +kernel) (by decide +kernel), by decide +kernel, by decide⟩
theorem in5_clashingWith : Cond.instanceMethod yX5_clashingWith ∈ am_tbl := am_at 353 (by decide +kernel) (by decide +kernel)
theorem se5_clashingWith : Cond.selects RX5 yX5_clashingWith yX5_clashingWith ∈ am_tbl := am_pr (by decide +kernel) (by decide +kernel)
theorem ok5_countClashes : am_ok m5_countClashes 1 := ⟨am_at 611 (by decide +kernel) (by decide +kernel), am_at 4 (by decide +kernel) (by decide +kernel), by decide +kernel, by decide⟩
theorem in5_countClashes : Cond.instanceMethod yX5_countClashes ∈ am_tbl := am_at 609 (by decide +kernel) (by decide +kernel)
theorem se5_countClashes : Cond.selects RX5 yX5_countClashes yX5_countClashes ∈ am_tbl := am_at 610 (by decide +kernel) (by decide +kernel)
theorem ok5_countFrom : am_ok m5_countFrom 3 := ⟨am_at 402 (by decide +kernel) (by decide +kernel), am_at 4 (by decide +kernel) (by decide +kernel), by decide +kernel, by decide⟩
theorem st5_countFrom : Cond.static yX5_countFrom ∈ am_tbl := am_at 401 (by decide +kernel) (by decide +kernel)
theorem ok5_countFull : am_ok m5_countFull 0 := ⟨am_at 399 (by decide +kernel) (by decide +kernel), am_at 4 (by decide +kernel) (by decide +kernel), by decide +kernel, by decide⟩
theorem in5_countFull : Cond.instanceMethod yX5_countFull ∈ am_tbl := am_at 397 (by decide +kernel) (by decide +kernel)
theorem se5_countFull : Cond.selects RX5 yX5_countFull yX5_countFull ∈ am_tbl := am_at 398 (by decide +kernel) (by decide +kernel)
theorem ok5_countFullWith : am_ok m5_countFullWith 2 := ⟨am_at 410 (by decide +kernel) (by decide +kernel), am_at 4 (by decide +kernel) (by decide +kernel), by decide +kernel, by decide⟩
theorem in5_countFullWith : Cond.instanceMethod yX5_countFullWith ∈ am_tbl := am_at 408 (by decide +kernel) (by decide +kernel)
theorem se5_countFullWith : Cond.selects RX5 yX5_countFullWith yX5_countFullWith ∈ am_tbl := am_at 409 (by decide +kernel) (by decide +kernel)
theorem ok5_findBest : am_ok m5_findBest 0 := ⟨am_at 344 (by decide +kernel) (by decide +kernel), am_at 4 (by decide +kernel) (by decide +kernel), by decide +kernel, by decide⟩
theorem in5_findBest : Cond.instanceMethod yX5_findBest ∈ am_tbl := am_at 342 (by decide +kernel) (by decide +kernel)
theorem se5_findBest : Cond.selects RX5 yX5_findBest yX5_findBest ∈ am_tbl := am_at 343 (by decide +kernel) (by decide +kernel)
theorem ok5_freeBoxes : am_ok m5_freeBoxes 1 := ⟨am_at 364 (by decide +kernel) (by decide +kernel), am_at 4 (by decide +kernel) (by decide +kernel), by decide +kernel, by decide⟩
theorem in5_freeBoxes : Cond.instanceMethod yX5_freeBoxes ∈ am_tbl := am_at 362 (by decide +kernel) (by decide +kernel)
theorem se5_freeBoxes : Cond.selects RX5 yX5_freeBoxes yX5_freeBoxes ∈ am_tbl := am_at 363 (by decide +kernel) (by decide +kernel)
theorem ok5_freeBoxesWith : am_ok m5_freeBoxesWith 2 := ⟨am_at 414 (by decide +kernel) (by decide +kernel), am_at 4 (by decide +kernel) (by decide +kernel), by decide +kernel, by decide⟩
theorem in5_freeBoxesWith : Cond.instanceMethod yX5_freeBoxesWith ∈ am_tbl := am_at 413 (by decide +kernel) (by decide +kernel)
theorem se5_freeBoxesWith : Cond.selects RX5 yX5_freeBoxesWith yX5_freeBoxesWith ∈ am_tbl := am_pr (by decide +kernel) (by decide +kernel)
theorem ok5_isFullFrom : am_ok m5_isFullFrom 4 := ⟨am_at 425 (by decide +kernel) (by decide +kernel), am_at 4 (by decide +kernel) (by decide +kernel), by decide +kernel, by decide⟩
theorem st5_isFullFrom : Cond.static yX5_isFullFrom ∈ am_tbl := am_at 424 (by decide +kernel) (by decide +kernel)
theorem ok5_isThereFull : am_ok m5_isThereFull 1 := ⟨am_at 434 (by decide +kernel) (by decide +kernel), am_at 4 (by decide +kernel) (by decide +kernel), by decide +kernel, by decide⟩
theorem in5_isThereFull : Cond.instanceMethod yX5_isThereFull ∈ am_tbl := am_at 432 (by decide +kernel) (by decide +kernel)
theorem se5_isThereFull : Cond.selects RX5 yX5_isThereFull yX5_isThereFull ∈ am_tbl := am_at 433 (by decide +kernel) (by decide +kernel)
theorem ok5_isThereFullWith : am_ok m5_isThereFullWith 2 := ⟨am_at 422 (by decide +kernel) (by decide +kernel), am_at 4 (by decide +kernel) (by decide +kernel), by decide +kernel, by decide⟩
theorem in5_isThereFullWith : Cond.instanceMethod yX5_isThereFullWith ∈ am_tbl := am_at 420 (by decide +kernel) (by decide +kernel)
theorem se5_isThereFullWith : Cond.selects RX5 yX5_isThereFullWith yX5_isThereFullWith ∈ am_tbl := am_at 421 (by decide +kernel) (by decide +kernel)
theorem ok5_seekBest : am_ok m5_seekBest 5 := ⟨am_at 376 (by decide +kernel) (by decide +kernel), am_at 4 (by decide +kernel) (by decide +kernel), by decide +kernel, by decide⟩
theorem st5_seekBest : Cond.static yX5_seekBest ∈ am_tbl := am_at 375 (by decide +kernel) (by decide +kernel)
theorem ok5_study : am_ok m5_study 1 := ⟨am_at 348 (by decide +kernel) (by decide +kernel), am_at 4 (by decide +kernel) (by decide +kernel), by decide +kernel, by decide⟩
theorem in5_study : Cond.instanceMethod yX5_study ∈ am_tbl := am_at 346 (by decide +kernel) (by decide +kernel)
theorem se5_study : Cond.selects RX5 yX5_study yX5_study ∈ am_tbl := am_at 347 (by decide +kernel) (by decide +kernel)
theorem ok6_boxOf : am_ok m6_boxOf 2 := ⟨am_at 273 (by decide +kernel) (by decide +kernel), am_at 1 (by decide +kernel) (by decide +kernel), by decide +kernel, by decide⟩
theorem st6_boxOf : Cond.static yX6_boxOf ∈ am_tbl := am_at 272 (by decide +kernel) (by decide +kernel)
theorem ok6_boxesOf : am_ok m6_boxesOf 1 := ⟨am_at 382 (by decide +kernel) (by decide +kernel), am_at 1 (by decide +kernel) (by decide +kernel), by decide +kernel, by decide⟩
theorem st6_boxesOf : Cond.static yX6_boxesOf ∈ am_tbl := am_at 381 (by decide +kernel) (by decide +kernel)
theorem ok6_hasBit : am_ok m6_hasBit 2 := ⟨am_at 368 (by decide +kernel) (by decide +kernel), am_at 1 (by decide +kernel) (by decide +kernel), by decide +kernel, by decide⟩
theorem st6_hasBit : Cond.static yX6_hasBit ∈ am_tbl := am_at 367 (by decide +kernel) (by decide +kernel)
theorem ok6_isCorner : am_ok m6_isCorner 1 := ⟨am_at 288 (by decide +kernel) (by decide +kernel), am_at 1 (by decide +kernel) (by decide +kernel), by decide +kernel, by decide⟩
theorem st6_isCorner : Cond.static yX6_isCorner ∈ am_tbl := am_at 287 (by decide +kernel) (by decide +kernel)
theorem ok6_isIn : am_ok m6_isIn 3 := ⟨am_at 257 (by decide +kernel) (by decide +kernel), am_at 1 (by decide +kernel) (by decide +kernel), by decide +kernel, by decide⟩
theorem st6_isIn : Cond.static yX6_isIn ∈ am_tbl := am_at 256 (by decide +kernel) (by decide +kernel)
theorem ok6_sized : am_ok m6_sized 2 := ⟨am_at 303 (by decide +kernel) (by decide +kernel), am_at 1 (by decide +kernel) (by decide +kernel), by decide +kernel, by decide⟩
theorem st6_sized : Cond.static yX6_sized ∈ am_tbl := am_at 302 (by decide +kernel) (by decide +kernel)
theorem ok6_toInt : am_ok m6_toInt 1 := ⟨am_at 292 (by decide +kernel) (by decide +kernel), am_at 1 (by decide +kernel) (by decide +kernel), by decide +kernel, by decide⟩
theorem st6_toInt : Cond.static yX6_toInt ∈ am_tbl := am_at 291 (by decide +kernel) (by decide +kernel)
theorem ok7_boxed : am_ok m7_boxed 1 := ⟨am_at 754 (by decide +kernel) (by decide +kernel), am_at 8 (by decide +kernel) (by decide +kernel), by decide +kernel, by decide⟩
theorem in7_boxed : Cond.instanceMethod yX7_boxed ∈ am_tbl := am_at 753 (by decide +kernel) (by decide +kernel)
theorem se7_boxed : Cond.selects RX7 yX7_boxed yX7_boxed ∈ am_tbl := am_pr (by decide +kernel) (by decide +kernel)
theorem ok7_clashes : am_ok m7_clashes 4 := ⟨am_at 778 (by decide +kernel) (by decide +kernel), am_at 8 (by decide +kernel) (by decide +kernel), by decide +kernel, by decide⟩
theorem in7_clashes : Cond.instanceMethod yX7_clashes ∈ am_tbl := am_at 777 (by decide +kernel) (by decide +kernel)
theorem se7_clashes : Cond.selects RX7 yX7_clashes yX7_clashes ∈ am_tbl := am_pr (by decide +kernel) (by decide +kernel)
theorem ok7_faultsNow : am_ok m7_faultsNow 0 := ⟨am_at 850 (by decide +kernel) (by decide +kernel), am_at 8 (by decide +kernel) (by decide +kernel), by decide +kernel, by decide⟩
theorem in7_faultsNow : Cond.instanceMethod yX7_faultsNow ∈ am_tbl := am_at 849 (by decide +kernel) (by decide +kernel)
theorem se7_faultsNow : Cond.selects RX7 yX7_faultsNow yX7_faultsNow ∈ am_tbl := am_pr (by decide +kernel) (by decide +kernel)
theorem ok7_faultsWith : am_ok m7_faultsWith 1 := ⟨am_at 854 (by decide +kernel) (by decide +kernel), am_at 8 (by decide +kernel) (by decide +kernel), by decide +kernel, by decide⟩
theorem in7_faultsWith : Cond.instanceMethod yX7_faultsWith ∈ am_tbl := am_at 853 (by decide +kernel) (by decide +kernel)
theorem se7_faultsWith : Cond.selects RX7 yX7_faultsWith yX7_faultsWith ∈ am_tbl := am_pr (by decide +kernel) (by decide +kernel)
theorem ok7_in : am_ok m7_in 3 := ⟨am_at 718 (by decide +kernel) (by decide +kernel), am_at 8 (by decide +kernel) (by decide +kernel), by decide +kernel, by decide⟩
theorem st7_in : Cond.static yX7_in ∈ am_tbl := am_at 717 (by decide +kernel) (by decide +kernel)
theorem ok7_isBetween : am_ok m7_isBetween 3 := ⟨am_at 930 (by decide +kernel) (by decide +kernel), am_at 8 (by decide +kernel) (by decide +kernel), by decide +kernel, by decide⟩
theorem st7_isBetween : Cond.static yX7_isBetween ∈ am_tbl := am_at 929 (by decide +kernel) (by decide +kernel)
theorem ok7_isCorner : am_ok m7_isCorner 1 := ⟨am_at 740 (by decide +kernel) (by decide +kernel), am_at 8 (by decide +kernel) (by decide +kernel), by decide +kernel, by decide⟩
theorem st7_isCorner : Cond.static yX7_isCorner ∈ am_tbl := am_at 739 (by decide +kernel) (by decide +kernel)
theorem ok7_isDeal : am_ok m7_isDeal 0 := ⟨am_at 915 (by decide +kernel) (by decide +kernel), am_at 8 (by decide +kernel) (by decide +kernel), by decide +kernel, by decide⟩
theorem in7_isDeal : Cond.instanceMethod yX7_isDeal ∈ am_tbl := am_at 914 (by decide +kernel) (by decide +kernel)
theorem se7_isDeal : Cond.selects RX7 yX7_isDeal yX7_isDeal ∈ am_tbl := am_pr (by decide +kernel) (by decide +kernel)
theorem ok7_isFree : am_ok m7_isFree 2 := ⟨am_at 762 (by decide +kernel) (by decide +kernel), am_at 8 (by decide +kernel) (by decide +kernel), by decide +kernel, by decide⟩
theorem in7_isFree : Cond.instanceMethod yX7_isFree ∈ am_tbl := am_at 761 (by decide +kernel) (by decide +kernel)
theorem se7_isFree : Cond.selects RX7 yX7_isFree yX7_isFree ∈ am_tbl := am_pr (by decide +kernel) (by decide +kernel)
theorem ok7_isSet : am_ok m7_isSet 1 := ⟨am_at 907 (by decide +kernel) (by decide +kernel), am_at 8 (by decide +kernel) (by decide +kernel), by decide +kernel, by decide⟩
theorem in7_isSet : Cond.instanceMethod yX7_isSet ∈ am_tbl := am_at 906 (by decide +kernel) (by decide +kernel)
theorem se7_isSet : Cond.selects RX7 yX7_isSet yX7_isSet ∈ am_tbl := am_pr (by decide +kernel) (by decide +kernel)
theorem ok7_isSite : am_ok m7_isSite 1 := ⟨am_at 733 (by decide +kernel) (by decide +kernel), am_at 8 (by decide +kernel) (by decide +kernel), by decide +kernel, by decide⟩
theorem in7_isSite : Cond.instanceMethod yX7_isSite ∈ am_tbl := am_at 732 (by decide +kernel) (by decide +kernel)
theorem se7_isSite : Cond.selects RX7 yX7_isSite yX7_isSite ∈ am_tbl := am_pr (by decide +kernel) (by decide +kernel)
theorem ok7_layBest : am_ok m7_layBest 0 := ⟨am_at 786 (by decide +kernel) (by decide +kernel), am_at 8 (by decide +kernel) (by decide +kernel), by decide +kernel, by decide⟩
theorem in7_layBest : Cond.instanceMethod yX7_layBest ∈ am_tbl := am_at 785 (by decide +kernel) (by decide +kernel)
theorem se7_layBest : Cond.selects RX7 yX7_layBest yX7_layBest ∈ am_tbl := am_pr (by decide +kernel) (by decide +kernel)
theorem ok7_layBits : am_ok m7_layBits 0 := ⟨am_at 790 (by decide +kernel) (by decide +kernel), am_at 8 (by decide +kernel) (by decide +kernel), by decide +kernel, by decide⟩
theorem in7_layBits : Cond.instanceMethod yX7_layBits ∈ am_tbl := am_at 789 (by decide +kernel) (by decide +kernel)
theorem se7_layBits : Cond.selects RX7 yX7_layBits yX7_layBits ∈ am_tbl := am_pr (by decide +kernel) (by decide +kernel)
theorem ok7_layDeal : am_ok m7_layDeal 1 := ⟨am_at 911 (by decide +kernel) (by decide +kernel), am_at 8 (by decide +kernel) (by decide +kernel), by decide +kernel, by decide⟩
theorem in7_layDeal : Cond.instanceMethod yX7_layDeal ∈ am_tbl := am_at 910 (by decide +kernel) (by decide +kernel)
theorem se7_layDeal : Cond.selects RX7 yX7_layDeal yX7_layDeal ∈ am_tbl := am_pr (by decide +kernel) (by decide +kernel)
theorem ok7_layFull : am_ok m7_layFull 1 := ⟨am_at 814 (by decide +kernel) (by decide +kernel), am_at 8 (by decide +kernel) (by decide +kernel), by decide +kernel, by decide⟩
theorem in7_layFull : Cond.instanceMethod yX7_layFull ∈ am_tbl := am_at 813 (by decide +kernel) (by decide +kernel)
theorem se7_layFull : Cond.selects RX7 yX7_layFull yX7_layFull ∈ am_tbl := am_pr (by decide +kernel) (by decide +kernel)
theorem ok7_layLevels : am_ok m7_layLevels 0 := ⟨am_at 883 (by decide +kernel) (by decide +kernel), am_at 8 (by decide +kernel) (by decide +kernel), by decide +kernel, by decide⟩
theorem in7_layLevels : Cond.instanceMethod yX7_layLevels ∈ am_tbl := am_at 882 (by decide +kernel) (by decide +kernel)
theorem se7_layLevels : Cond.selects RX7 yX7_layLevels yX7_layLevels ∈ am_tbl := am_pr (by decide +kernel) (by decide +kernel)
theorem ok7_left : am_ok m7_left 2 := ⟨am_at 766 (by decide +kernel) (by decide +kernel), am_at 8 (by decide +kernel) (by decide +kernel), by decide +kernel, by decide⟩
theorem in7_left : Cond.instanceMethod yX7_left ∈ am_tbl := am_at 765 (by decide +kernel) (by decide +kernel)
theorem se7_left : Cond.selects RX7 yX7_left yX7_left ∈ am_tbl := am_pr (by decide +kernel) (by decide +kernel)
theorem ok7_lengthOf : am_ok m7_lengthOf 2 := ⟨am_at 923 (by decide +kernel) (by decide +kernel), am_at 8 (by decide +kernel) (by decide +kernel), by decide +kernel, by decide⟩
theorem in7_lengthOf : Cond.instanceMethod yX7_lengthOf ∈ am_tbl := am_at 922 (by decide +kernel) (by decide +kernel)
theorem se7_lengthOf : Cond.selects RX7 yX7_lengthOf yX7_lengthOf ∈ am_tbl := am_pr (by decide +kernel) (by decide +kernel)
theorem ok7_lineCrosses : am_ok m7_lineCrosses 4 := ⟨am_at 927 (by decide +kernel) (by decide +kernel), am_at 8 (by decide +kernel) (by decide +kernel), by decide +kernel, by decide⟩
theorem in7_lineCrosses : Cond.instanceMethod yX7_lineCrosses ∈ am_tbl := am_at 926 (by decide +kernel) (by decide +kernel)
theorem se7_lineCrosses : Cond.selects RX7 yX7_lineCrosses yX7_lineCrosses ∈ am_tbl := am_pr (by decide +kernel) (by decide +kernel)
theorem ok7_low : am_ok m7_low 2 := ⟨am_at 770 (by decide +kernel) (by decide +kernel), am_at 8 (by decide +kernel) (by decide +kernel), by decide +kernel, by decide⟩
theorem in7_low : Cond.instanceMethod yX7_low ∈ am_tbl := am_at 769 (by decide +kernel) (by decide +kernel)
theorem se7_low : Cond.selects RX7 yX7_low yX7_low ∈ am_tbl := am_pr (by decide +kernel) (by decide +kernel)
theorem ok7_mayShow : am_ok m7_mayShow 2 := ⟨am_at 891 (by decide +kernel) (by decide +kernel), am_at 8 (by decide +kernel) (by decide +kernel), by decide +kernel, by decide⟩
theorem in7_mayShow : Cond.instanceMethod yX7_mayShow ∈ am_tbl := am_at 890 (by decide +kernel) (by decide +kernel)
theorem se7_mayShow : Cond.selects RX7 yX7_mayShow yX7_mayShow ∈ am_tbl := am_pr (by decide +kernel) (by decide +kernel)
theorem ok7_nextCorner : am_ok m7_nextCorner 2 := ⟨am_at 794 (by decide +kernel) (by decide +kernel), am_at 8 (by decide +kernel) (by decide +kernel), by decide +kernel, by decide⟩
theorem in7_nextCorner : Cond.instanceMethod yX7_nextCorner ∈ am_tbl := am_at 793 (by decide +kernel) (by decide +kernel)
theorem se7_nextCorner : Cond.selects RX7 yX7_nextCorner yX7_nextCorner ∈ am_tbl := am_pr (by decide +kernel) (by decide +kernel)
theorem ok7_show : am_ok m7_show 2 := ⟨am_at 887 (by decide +kernel) (by decide +kernel), am_at 8 (by decide +kernel) (by decide +kernel), by decide +kernel, by decide⟩
theorem in7_show : Cond.instanceMethod yX7_show ∈ am_tbl := am_at 886 (by decide +kernel) (by decide +kernel)
theorem se7_show : Cond.selects RX7 yX7_show yX7_show ∈ am_tbl := am_pr (by decide +kernel) (by decide +kernel)
theorem ok7_step : am_ok m7_step 1 := ⟨am_at 798 (by decide +kernel) (by decide +kernel), am_at 8 (by decide +kernel) (by decide +kernel), by decide +kernel, by decide⟩
theorem in7_step : Cond.instanceMethod yX7_step ∈ am_tbl := am_at 797 (by decide +kernel) (by decide +kernel)
theorem se7_step : Cond.selects RX7 yX7_step yX7_step ∈ am_tbl := am_pr (by decide +kernel) (by decide +kernel)
theorem ok7_stirOnce : am_ok m7_stirOnce 0 := ⟨am_at 866 (by decide +kernel) (by decide +kernel), am_at 8 (by decide +kernel) (by decide +kernel), by decide +kernel, by decide⟩
theorem in7_stirOnce : Cond.instanceMethod yX7_stirOnce ∈ am_tbl := am_at 865 (by decide +kernel) (by decide +kernel)
theorem se7_stirOnce : Cond.selects RX7 yX7_stirOnce yX7_stirOnce ∈ am_tbl := am_pr (by decide +kernel) (by decide +kernel)
theorem ok7_weigh : am_ok m7_weigh 0 := ⟨am_at 919 (by decide +kernel) (by decide +kernel), am_at 8 (by decide +kernel) (by decide +kernel), by decide +kernel, by decide⟩
theorem in7_weigh : Cond.instanceMethod yX7_weigh ∈ am_tbl := am_at 918 (by decide +kernel) (by decide +kernel)
theorem se7_weigh : Cond.selects RX7 yX7_weigh yX7_weigh ∈ am_tbl := am_pr (by decide +kernel) (by decide +kernel)
theorem f6_10 : Cond.fieldLink RX6 10 (TX6 0).1 (TX6 0).2.1 (TX6 0).2.2.1 ∈ am_tbl := am_at 232 (by decide +kernel) (by decide +kernel)
theorem f6_21 : Cond.fieldLink RX6 21 (TX6 1).1 (TX6 1).2.1 (TX6 1).2.2.1 ∈ am_tbl := am_at 233 (by decide +kernel) (by decide +kernel)
theorem f6_30 : Cond.fieldLink RX6 30 (TX6 2).1 (TX6 2).2.1 (TX6 2).2.2.1 ∈ am_tbl := am_at 234 (by decide +kernel) (by decide +kernel)
theorem f6_37 : Cond.fieldLink RX6 37 (TX6 3).1 (TX6 3).2.1 (TX6 3).2.2.1 ∈ am_tbl := am_at 235 (by decide +kernel) (by decide +kernel)
theorem f6_44 : Cond.fieldLink RX6 44 (TX6 4).1 (TX6 4).2.1 (TX6 4).2.2.1 ∈ am_tbl := am_at 236 (by decide +kernel) (by decide +kernel)
theorem f6_51 : Cond.fieldLink RX6 51 (TX6 5).1 (TX6 5).2.1 (TX6 5).2.2.1 ∈ am_tbl := am_at 237 (by decide +kernel) (by decide +kernel)
theorem f6_59 : Cond.fieldLink RX6 59 (TX1 0).1 (TX1 0).2.1 (TX1 0).2.2.1 ∈ am_tbl := am_at 28 (by decide +kernel) (by decide +kernel)
theorem f6_63 : Cond.fieldLink RX6 63 (TX1 1).1 (TX1 1).2.1 (TX1 1).2.2.1 ∈ am_tbl := am_at 32 (by decide +kernel) (by decide +kernel)
theorem f6_66 : Cond.fieldLink RX6 66 (TX1 4).1 (TX1 4).2.1 (TX1 4).2.2.1 ∈ am_tbl := am_at 46 (by decide +kernel) (by decide +kernel)
theorem f6_77 : Cond.fieldLink RX6 77 (TX3 2).1 (TX3 2).2.1 (TX3 2).2.2.1 ∈ am_tbl := am_at 170 (by decide +kernel) (by decide +kernel)
theorem f6_85 : Cond.fieldLink RX6 85 (TX1 5).1 (TX1 5).2.1 (TX1 5).2.2.1 ∈ am_tbl := am_at 50 (by decide +kernel) (by decide +kernel)
theorem f6_88 : Cond.fieldLink RX6 88 (TX1 6).1 (TX1 6).2.1 (TX1 6).2.2.1 ∈ am_tbl := am_at 54 (by decide +kernel) (by decide +kernel)
theorem f6_98 : Cond.fieldLink RX6 98 (TX1 10).1 (TX1 10).2.1 (TX1 10).2.2.1 ∈ am_tbl := am_at 68 (by decide +kernel) (by decide +kernel)
theorem f6_106 : Cond.fieldLink RX6 106 (TX1 2).1 (TX1 2).2.1 (TX1 2).2.2.1 ∈ am_tbl := am_at 37 (by decide +kernel) (by decide +kernel)
theorem f6_109 : Cond.fieldLink RX6 109 (TX1 3).1 (TX1 3).2.1 (TX1 3).2.2.1 ∈ am_tbl := am_at 40 (by decide +kernel) (by decide +kernel)
theorem f6_112 : Cond.fieldLink RX6 112 (TX1 7).1 (TX1 7).2.1 (TX1 7).2.2.1 ∈ am_tbl := am_at 58 (by decide +kernel) (by decide +kernel)
theorem f6_115 : Cond.fieldLink RX6 115 (TX1 8).1 (TX1 8).2.1 (TX1 8).2.2.1 ∈ am_tbl := am_at 61 (by decide +kernel) (by decide +kernel)
theorem f6_118 : Cond.fieldLink RX6 118 (TX1 9).1 (TX1 9).2.1 (TX1 9).2.2.1 ∈ am_tbl := am_at 65 (by decide +kernel) (by decide +kernel)
theorem f6_137 : Cond.fieldLink RX6 137 (TX5 7).1 (TX5 7).2.1 (TX5 7).2.2.1 ∈ am_tbl := am_at 143 (by decide +kernel) (by decide +kernel)
theorem f6_140 : Cond.fieldLink RX6 140 (TX5 6).1 (TX5 6).2.1 (TX5 6).2.2.1 ∈ am_tbl := am_at 141 (by decide +kernel) (by decide +kernel)
theorem f6_182 : Cond.fieldLink RX6 182 (TX4 2).1 (TX4 2).2.1 (TX4 2).2.2.1 ∈ am_tbl := am_at 187 (by decide +kernel) (by decide +kernel)
theorem f6_185 : Cond.fieldLink RX6 185 (TX4 3).1 (TX4 3).2.1 (TX4 3).2.2.1 ∈ am_tbl := am_at 189 (by decide +kernel) (by decide +kernel)
theorem f6_192 : Cond.fieldLink RX6 192 (TX2 5).1 (TX2 5).2.1 (TX2 5).2.2.1 ∈ am_tbl := am_at 214 (by decide +kernel) (by decide +kernel)
theorem f6_195 : Cond.fieldLink RX6 195 (TX2 6).1 (TX2 6).2.1 (TX2 6).2.2.1 ∈ am_tbl := am_at 216 (by decide +kernel) (by decide +kernel)
theorem f0_9 : Cond.fieldLink RX0 9 (TX0 3).1 (TX0 3).2.1 (TX0 3).2.2.1 ∈ am_tbl := am_at 103 (by decide +kernel) (by decide +kernel)
theorem f0_15 : Cond.fieldLink RX0 15 (TX0 4).1 (TX0 4).2.1 (TX0 4).2.2.1 ∈ am_tbl := am_at 104 (by decide +kernel) (by decide +kernel)
theorem f0_18 : Cond.fieldLink RX0 18 (TX0 5).1 (TX0 5).2.1 (TX0 5).2.2.1 ∈ am_tbl := am_at 105 (by decide +kernel) (by decide +kernel)
theorem f0_21 : Cond.fieldLink RX0 21 (TX0 6).1 (TX0 6).2.1 (TX0 6).2.2.1 ∈ am_tbl := am_at 106 (by decide +kernel) (by decide +kernel)
theorem f0_24 : Cond.fieldLink RX0 24 (TX0 7).1 (TX0 7).2.1 (TX0 7).2.2.1 ∈ am_tbl := am_at 107 (by decide +kernel) (by decide +kernel)
theorem f0_27 : Cond.fieldLink RX0 27 (TX0 8).1 (TX0 8).2.1 (TX0 8).2.2.1 ∈ am_tbl := am_at 108 (by decide +kernel) (by decide +kernel)
theorem f0_30 : Cond.fieldLink RX0 30 (TX0 0).1 (TX0 0).2.1 (TX0 0).2.2.1 ∈ am_tbl := am_at 100 (by decide +kernel) (by decide +kernel)
theorem f0_34 : Cond.fieldLink RX0 34 (TX1 0).1 (TX1 0).2.1 (TX1 0).2.2.1 ∈ am_tbl := am_at 27 (by decide +kernel) (by decide +kernel)
theorem f0_40 : Cond.fieldLink RX0 40 (TX0 1).1 (TX0 1).2.1 (TX0 1).2.2.1 ∈ am_tbl := am_at 101 (by decide +kernel) (by decide +kernel)
theorem f0_41 : Cond.fieldLink RX0 41 (TX1 1).1 (TX1 1).2.1 (TX1 1).2.2.1 ∈ am_tbl := am_at 31 (by decide +kernel) (by decide +kernel)
theorem f0_44 : Cond.fieldLink RX0 44 (TX0 2).1 (TX0 2).2.1 (TX0 2).2.2.1 ∈ am_tbl := am_at 102 (by decide +kernel) (by decide +kernel)
theorem f0_45 : Cond.fieldLink RX0 45 (TX1 4).1 (TX1 4).2.1 (TX1 4).2.2.1 ∈ am_tbl := am_at 45 (by decide +kernel) (by decide +kernel)
theorem f0_48 : Cond.fieldLink RX0 48 (TX1 5).1 (TX1 5).2.1 (TX1 5).2.2.1 ∈ am_tbl := am_at 49 (by decide +kernel) (by decide +kernel)
theorem f0_51 : Cond.fieldLink RX0 51 (TX1 6).1 (TX1 6).2.1 (TX1 6).2.2.1 ∈ am_tbl := am_at 53 (by decide +kernel) (by decide +kernel)
theorem f0_54 : Cond.fieldLink RX0 54 (TX1 7).1 (TX1 7).2.1 (TX1 7).2.2.1 ∈ am_tbl := am_at 57 (by decide +kernel) (by decide +kernel)
theorem f0_61 : Cond.fieldLink RX0 61 (TX1 8).1 (TX1 8).2.1 (TX1 8).2.2.1 ∈ am_tbl := am_at 60 (by decide +kernel) (by decide +kernel)
theorem f0_73 : Cond.fieldLink RX0 73 (TX1 10).1 (TX1 10).2.1 (TX1 10).2.2.1 ∈ am_tbl := am_at 67 (by decide +kernel) (by decide +kernel)
theorem f0_77 : Cond.fieldLink RX0 77 (TX1 3).1 (TX1 3).2.1 (TX1 3).2.2.1 ∈ am_tbl := am_at 39 (by decide +kernel) (by decide +kernel)
theorem f1_9 : Cond.fieldLink RX1 9 (TX1 0).1 (TX1 0).2.1 (TX1 0).2.2.1 ∈ am_tbl := am_at 26 (by decide +kernel) (by decide +kernel)
theorem f1_15 : Cond.fieldLink RX1 15 (TX1 1).1 (TX1 1).2.1 (TX1 1).2.2.1 ∈ am_tbl := am_at 30 (by decide +kernel) (by decide +kernel)
theorem f1_24 : Cond.fieldLink RX1 24 (TX1 4).1 (TX1 4).2.1 (TX1 4).2.2.1 ∈ am_tbl := am_at 41 (by decide +kernel) (by decide +kernel)
theorem f1_27 : Cond.fieldLink RX1 27 (TX1 5).1 (TX1 5).2.1 (TX1 5).2.2.1 ∈ am_tbl := am_at 48 (by decide +kernel) (by decide +kernel)
theorem f1_31 : Cond.fieldLink RX1 31 (TX1 6).1 (TX1 6).2.1 (TX1 6).2.2.1 ∈ am_tbl := am_at 52 (by decide +kernel) (by decide +kernel)
theorem f1_34 : Cond.fieldLink RX1 34 (TX1 7).1 (TX1 7).2.1 (TX1 7).2.2.1 ∈ am_tbl := am_at 56 (by decide +kernel) (by decide +kernel)
theorem f1_37 : Cond.fieldLink RX1 37 (TX1 8).1 (TX1 8).2.1 (TX1 8).2.2.1 ∈ am_tbl := am_at 59 (by decide +kernel) (by decide +kernel)
theorem f1_40 : Cond.fieldLink RX1 40 (TX1 9).1 (TX1 9).2.1 (TX1 9).2.2.1 ∈ am_tbl := am_at 62 (by decide +kernel) (by decide +kernel)
theorem f1_43 : Cond.fieldLink RX1 43 (TX1 10).1 (TX1 10).2.1 (TX1 10).2.2.1 ∈ am_tbl := am_at 66 (by decide +kernel) (by decide +kernel)
theorem f2_9 : Cond.fieldLink RX2 9 (TX2 2).1 (TX2 2).2.1 (TX2 2).2.2.1 ∈ am_tbl := am_at 210 (by decide +kernel) (by decide +kernel)
theorem f2_15 : Cond.fieldLink RX2 15 (TX2 3).1 (TX2 3).2.1 (TX2 3).2.2.1 ∈ am_tbl := am_at 211 (by decide +kernel) (by decide +kernel)
theorem f2_18 : Cond.fieldLink RX2 18 (TX2 4).1 (TX2 4).2.1 (TX2 4).2.2.1 ∈ am_tbl := am_at 212 (by decide +kernel) (by decide +kernel)
theorem f2_21 : Cond.fieldLink RX2 21 (TX2 0).1 (TX2 0).2.1 (TX2 0).2.2.1 ∈ am_tbl := am_at 208 (by decide +kernel) (by decide +kernel)
theorem f2_25 : Cond.fieldLink RX2 25 (TX2 1).1 (TX2 1).2.1 (TX2 1).2.2.1 ∈ am_tbl := am_at 209 (by decide +kernel) (by decide +kernel)
theorem f2_29 : Cond.fieldLink RX2 29 (TX1 4).1 (TX1 4).2.1 (TX1 4).2.2.1 ∈ am_tbl := am_at 43 (by decide +kernel) (by decide +kernel)
theorem f2_39 : Cond.fieldLink RX2 39 (TX2 5).1 (TX2 5).2.1 (TX2 5).2.2.1 ∈ am_tbl := am_at 213 (by decide +kernel) (by decide +kernel)
theorem f2_42 : Cond.fieldLink RX2 42 (TX2 6).1 (TX2 6).2.1 (TX2 6).2.2.1 ∈ am_tbl := am_at 215 (by decide +kernel) (by decide +kernel)
theorem f2_73 : Cond.fieldLink RX2 73 (TX1 1).1 (TX1 1).2.1 (TX1 1).2.2.1 ∈ am_tbl := am_at 33 (by decide +kernel) (by decide +kernel)
theorem f2_76 : Cond.fieldLink RX2 76 (TX1 6).1 (TX1 6).2.1 (TX1 6).2.2.1 ∈ am_tbl := am_at 55 (by decide +kernel) (by decide +kernel)
theorem f2_84 : Cond.fieldLink RX2 84 (TX1 0).1 (TX1 0).2.1 (TX1 0).2.2.1 ∈ am_tbl := am_at 29 (by decide +kernel) (by decide +kernel)
theorem f2_87 : Cond.fieldLink RX2 87 (TX1 5).1 (TX1 5).2.1 (TX1 5).2.2.1 ∈ am_tbl := am_at 51 (by decide +kernel) (by decide +kernel)
theorem f3_9 : Cond.fieldLink RX3 9 (TX3 2).1 (TX3 2).2.1 (TX3 2).2.2.1 ∈ am_tbl := am_at 169 (by decide +kernel) (by decide +kernel)
theorem f3_15 : Cond.fieldLink RX3 15 (TX3 0).1 (TX3 0).2.1 (TX3 0).2.2.1 ∈ am_tbl := am_at 167 (by decide +kernel) (by decide +kernel)
theorem f3_19 : Cond.fieldLink RX3 19 (TX3 1).1 (TX3 1).2.1 (TX3 1).2.2.1 ∈ am_tbl := am_at 168 (by decide +kernel) (by decide +kernel)
theorem f3_41 : Cond.fieldLink RX3 41 (TX1 4).1 (TX1 4).2.1 (TX1 4).2.2.1 ∈ am_tbl := am_at 47 (by decide +kernel) (by decide +kernel)
theorem f4_9 : Cond.fieldLink RX4 9 (TX4 2).1 (TX4 2).2.1 (TX4 2).2.2.1 ∈ am_tbl := am_at 186 (by decide +kernel) (by decide +kernel)
theorem f4_15 : Cond.fieldLink RX4 15 (TX4 3).1 (TX4 3).2.1 (TX4 3).2.2.1 ∈ am_tbl := am_at 188 (by decide +kernel) (by decide +kernel)
theorem f4_18 : Cond.fieldLink RX4 18 (TX4 4).1 (TX4 4).2.1 (TX4 4).2.2.1 ∈ am_tbl := am_at 190 (by decide +kernel) (by decide +kernel)
theorem f4_21 : Cond.fieldLink RX4 21 (TX4 0).1 (TX4 0).2.1 (TX4 0).2.2.1 ∈ am_tbl := am_at 184 (by decide +kernel) (by decide +kernel)
theorem f4_25 : Cond.fieldLink RX4 25 (TX4 1).1 (TX4 1).2.1 (TX4 1).2.2.1 ∈ am_tbl := am_at 185 (by decide +kernel) (by decide +kernel)
theorem f4_32 : Cond.fieldLink RX4 32 (TX1 4).1 (TX1 4).2.1 (TX1 4).2.2.1 ∈ am_tbl := am_at 42 (by decide +kernel) (by decide +kernel)
theorem f4_38 : Cond.fieldLink RX4 38 (TX1 2).1 (TX1 2).2.1 (TX1 2).2.2.1 ∈ am_tbl := am_at 35 (by decide +kernel) (by decide +kernel)
theorem f4_50 : Cond.fieldLink RX4 50 (TX1 9).1 (TX1 9).2.1 (TX1 9).2.2.1 ∈ am_tbl := am_at 63 (by decide +kernel) (by decide +kernel)
theorem f5_9 : Cond.fieldLink RX5 9 (TX5 2).1 (TX5 2).2.1 (TX5 2).2.2.1 ∈ am_tbl := am_at 136 (by decide +kernel) (by decide +kernel)
theorem f5_15 : Cond.fieldLink RX5 15 (TX5 3).1 (TX5 3).2.1 (TX5 3).2.2.1 ∈ am_tbl := am_at 137 (by decide +kernel) (by decide +kernel)
theorem f5_18 : Cond.fieldLink RX5 18 (TX5 5).1 (TX5 5).2.1 (TX5 5).2.2.1 ∈ am_tbl := am_at 139 (by decide +kernel) (by decide +kernel)
theorem f5_21 : Cond.fieldLink RX5 21 (TX5 6).1 (TX5 6).2.1 (TX5 6).2.2.1 ∈ am_tbl := am_at 140 (by decide +kernel) (by decide +kernel)
theorem f5_24 : Cond.fieldLink RX5 24 (TX5 0).1 (TX5 0).2.1 (TX5 0).2.2.1 ∈ am_tbl := am_at 134 (by decide +kernel) (by decide +kernel)
theorem f5_28 : Cond.fieldLink RX5 28 (TX5 1).1 (TX5 1).2.1 (TX5 1).2.2.1 ∈ am_tbl := am_at 135 (by decide +kernel) (by decide +kernel)
theorem f5_38 : Cond.fieldLink RX5 38 (TX1 4).1 (TX1 4).2.1 (TX1 4).2.2.1 ∈ am_tbl := am_at 44 (by decide +kernel) (by decide +kernel)
theorem f5_44 : Cond.fieldLink RX5 44 (TX5 4).1 (TX5 4).2.1 (TX5 4).2.2.1 ∈ am_tbl := am_at 138 (by decide +kernel) (by decide +kernel)
theorem f5_79 : Cond.fieldLink RX5 79 (TX1 2).1 (TX1 2).2.1 (TX1 2).2.2.1 ∈ am_tbl := am_at 36 (by decide +kernel) (by decide +kernel)
theorem f5_86 : Cond.fieldLink RX5 86 (TX5 7).1 (TX5 7).2.1 (TX5 7).2.2.1 ∈ am_tbl := am_at 142 (by decide +kernel) (by decide +kernel)
theorem f5_102 : Cond.fieldLink RX5 102 (TX1 9).1 (TX1 9).2.1 (TX1 9).2.2.1 ∈ am_tbl := am_at 64 (by decide +kernel) (by decide +kernel)
theorem f7_7 : Cond.fieldLink RX7 7 (TX7 0).1 (TX7 0).2.1 (TX7 0).2.2.1 ∈ am_tbl := am_at 619 (by decide +kernel) (by decide +kernel)
theorem f7_13 : Cond.fieldLink RX7 13 (TX7 1).1 (TX7 1).2.1 (TX7 1).2.2.1 ∈ am_tbl := am_at 620 (by decide +kernel) (by decide +kernel)
theorem f7_16 : Cond.fieldLink RX7 16 (TX7 3).1 (TX7 3).2.1 (TX7 3).2.2.1 ∈ am_tbl := am_at 622 (by decide +kernel) (by decide +kernel)
theorem f7_20 : Cond.fieldLink RX7 20 (TX7 4).1 (TX7 4).2.1 (TX7 4).2.2.1 ∈ am_tbl := am_at 623 (by decide +kernel) (by decide +kernel)
theorem f7_23 : Cond.fieldLink RX7 23 (TX7 5).1 (TX7 5).2.1 (TX7 5).2.2.1 ∈ am_tbl := am_at 624 (by decide +kernel) (by decide +kernel)
theorem f7_26 : Cond.fieldLink RX7 26 (TX7 6).1 (TX7 6).2.1 (TX7 6).2.2.1 ∈ am_tbl := am_at 625 (by decide +kernel) (by decide +kernel)
theorem f7_29 : Cond.fieldLink RX7 29 (TX7 7).1 (TX7 7).2.1 (TX7 7).2.2.1 ∈ am_tbl := am_at 626 (by decide +kernel) (by decide +kernel)
theorem f7_32 : Cond.fieldLink RX7 32 (TX7 8).1 (TX7 8).2.1 (TX7 8).2.2.1 ∈ am_tbl := am_at 627 (by decide +kernel) (by decide +kernel)
theorem f7_35 : Cond.fieldLink RX7 35 (TX7 9).1 (TX7 9).2.1 (TX7 9).2.2.1 ∈ am_tbl := am_at 628 (by decide +kernel) (by decide +kernel)
theorem f7_38 : Cond.fieldLink RX7 38 (TX7 10).1 (TX7 10).2.1 (TX7 10).2.2.1 ∈ am_tbl := am_at 629 (by decide +kernel) (by decide +kernel)
theorem f7_41 : Cond.fieldLink RX7 41 (TX7 12).1 (TX7 12).2.1 (TX7 12).2.2.1 ∈ am_tbl := am_at 631 (by decide +kernel) (by decide +kernel)
theorem f7_44 : Cond.fieldLink RX7 44 (TX7 14).1 (TX7 14).2.1 (TX7 14).2.2.1 ∈ am_tbl := am_at 633 (by decide +kernel) (by decide +kernel)
theorem f7_47 : Cond.fieldLink RX7 47 (TX7 15).1 (TX7 15).2.1 (TX7 15).2.2.1 ∈ am_tbl := am_at 634 (by decide +kernel) (by decide +kernel)
theorem f7_50 : Cond.fieldLink RX7 50 (TX7 17).1 (TX7 17).2.1 (TX7 17).2.2.1 ∈ am_tbl := am_at 636 (by decide +kernel) (by decide +kernel)
theorem f7_53 : Cond.fieldLink RX7 53 (TX7 18).1 (TX7 18).2.1 (TX7 18).2.2.1 ∈ am_tbl := am_at 637 (by decide +kernel) (by decide +kernel)
theorem f7_56 : Cond.fieldLink RX7 56 (TX7 21).1 (TX7 21).2.1 (TX7 21).2.2.1 ∈ am_tbl := am_at 640 (by decide +kernel) (by decide +kernel)
theorem f7_59 : Cond.fieldLink RX7 59 (TX7 22).1 (TX7 22).2.1 (TX7 22).2.2.1 ∈ am_tbl := am_at 641 (by decide +kernel) (by decide +kernel)
theorem f7_62 : Cond.fieldLink RX7 62 (TX7 23).1 (TX7 23).2.1 (TX7 23).2.2.1 ∈ am_tbl := am_at 642 (by decide +kernel) (by decide +kernel)
theorem f7_65 : Cond.fieldLink RX7 65 (TX7 24).1 (TX7 24).2.1 (TX7 24).2.2.1 ∈ am_tbl := am_at 643 (by decide +kernel) (by decide +kernel)
theorem f7_68 : Cond.fieldLink RX7 68 (TX7 25).1 (TX7 25).2.1 (TX7 25).2.2.1 ∈ am_tbl := am_at 644 (by decide +kernel) (by decide +kernel)
theorem f7_71 : Cond.fieldLink RX7 71 (TX7 26).1 (TX7 26).2.1 (TX7 26).2.2.1 ∈ am_tbl := am_at 645 (by decide +kernel) (by decide +kernel)
theorem f7_74 : Cond.fieldLink RX7 74 (TX7 2).1 (TX7 2).2.1 (TX7 2).2.2.1 ∈ am_tbl := am_at 621 (by decide +kernel) (by decide +kernel)
theorem f7_102 : Cond.fieldLink RX7 102 (TX7 11).1 (TX7 11).2.1 (TX7 11).2.2.1 ∈ am_tbl := am_at 630 (by decide +kernel) (by decide +kernel)
theorem f7_116 : Cond.fieldLink RX7 116 (TX7 13).1 (TX7 13).2.1 (TX7 13).2.2.1 ∈ am_tbl := am_at 632 (by decide +kernel) (by decide +kernel)
theorem f7_127 : Cond.fieldLink RX7 127 (TX7 16).1 (TX7 16).2.1 (TX7 16).2.2.1 ∈ am_tbl := am_at 635 (by decide +kernel) (by decide +kernel)
theorem f7_133 : Cond.fieldLink RX7 133 (TX7 19).1 (TX7 19).2.1 (TX7 19).2.2.1 ∈ am_tbl := am_at 638 (by decide +kernel) (by decide +kernel)
theorem f7_143 : Cond.fieldLink RX7 143 (TX7 20).1 (TX7 20).2.1 (TX7 20).2.2.1 ∈ am_tbl := am_at 639 (by decide +kernel) (by decide +kernel)
theorem f7_179 : Cond.fieldLink RX7 179 (TX7 27).1 (TX7 27).2.1 (TX7 27).2.2.1 ∈ am_tbl := am_at 646 (by decide +kernel) (by decide +kernel)
theorem f7_188 : Cond.fieldLink RX7 188 (TX7 28).1 (TX7 28).2.1 (TX7 28).2.2.1 ∈ am_tbl := am_at 647 (by decide +kernel) (by decide +kernel)
theorem f7_191 : Cond.fieldLink RX7 191 (TX7 29).1 (TX7 29).2.1 (TX7 29).2.2.1 ∈ am_tbl := am_at 648 (by decide +kernel) (by decide +kernel)
theorem l0_57 : (RX0, 57, yX6_sized, "MapNames") ∈ am_nest := by decide +kernel
theorem l0_62 : (RX0, 62, yX6_boxOf, "MapNames") ∈ am_nest := by decide +kernel
theorem l0_65 : Cond.methodLink RX0 65 yX0_mayStand ∈ am_tbl := am_at 321 (by decide +kernel) (by decide +kernel)
theorem l0_69 : Cond.methodLink RX0 69 yX0_sitesWithin ∈ am_tbl := am_at 325 (by decide +kernel) (by decide +kernel)
theorem l1_47 : (RX1, 47, yX6_isIn, "MapNames") ∈ am_nest := by decide +kernel
theorem l1_51 : (RX1, 51, yX6_boxOf, "MapNames") ∈ am_nest := by decide +kernel
theorem l1_55 : (RX1, 55, yX6_hasBit, "MapNames") ∈ am_nest := by decide +kernel
theorem l1_59 : Cond.methodLink RX1 59 yX1_everySite ∈ am_tbl := am_at 535 (by decide +kernel) (by decide +kernel)
theorem l1_63 : Cond.methodLink RX1 63 yJ6_bitCount_0f7a4 ∈ am_tbl := am_at 536 (by decide +kernel) (by decide +kernel)
theorem l2_100 : Cond.methodLink RX2 100 Lib.Math.max.name ∈ am_tbl := am_at 571 (by decide +kernel) (by decide +kernel)
theorem l2_34 : (RX2, 34, yX6_hasBit, "MapNames") ∈ am_nest := by decide +kernel
theorem l2_45 : Cond.methodLink RX2 45 yX2_seekDeal ∈ am_tbl := am_at 548 (by decide +kernel) (by decide +kernel)
theorem l2_49 : Cond.methodLink RX2 49 arraycopyName ∈ am_tbl := am_at 551 (by decide +kernel) (by decide +kernel)
theorem l2_55 : Cond.methodLink RX2 55 yX2_crossedBefore ∈ am_tbl := am_at 552 (by decide +kernel) (by decide +kernel)
theorem l2_59 : Cond.methodLink RX2 59 yX2_lengthOf ∈ am_tbl := am_at 577 (by decide +kernel) (by decide +kernel)
theorem l2_62 : Cond.methodLink RX2 62 yX2_heightOf ∈ am_tbl := am_at 556 (by decide +kernel) (by decide +kernel)
theorem l2_65 : Cond.methodLink RX2 65 yX2_doCross ∈ am_tbl := am_at 560 (by decide +kernel) (by decide +kernel)
theorem l2_69 : (RX2, 69, yX6_toInt, "MapNames") ∈ am_nest := by decide +kernel
theorem l2_79 : Cond.methodLink RX2 79 Lib.Math.abs.name ∈ am_tbl := am_at 581 (by decide +kernel) (by decide +kernel)
theorem l2_90 : Cond.methodLink RX2 90 yX2_isFirstPartMet ∈ am_tbl := am_at 564 (by decide +kernel) (by decide +kernel)
theorem l2_93 : Cond.methodLink RX2 93 yX2_doFirstPartsMeet ∈ am_tbl := am_at 572 (by decide +kernel) (by decide +kernel)
theorem l2_96 : Cond.methodLink RX2 96 Lib.Math.min.name ∈ am_tbl := am_at 568 (by decide +kernel) (by decide +kernel)
theorem l3_23 : (RX3, 23, yX6_boxOf, "MapNames") ∈ am_nest := by decide +kernel
theorem l3_27 : Cond.methodLink RX3 27 yX0_isFree ∈ am_tbl := am_at 465 (by decide +kernel) (by decide +kernel)
theorem l3_33 : (RX3, 33, yX6_toInt, "MapNames") ∈ am_nest := by decide +kernel
theorem l3_37 : Cond.methodLink RX3 37 yX0_doClash ∈ am_tbl := am_at 471 (by decide +kernel) (by decide +kernel)
theorem l3_47 : Cond.methodLink RX3 47 yX3_ownFault ∈ am_tbl := am_at 460 (by decide +kernel) (by decide +kernel)
theorem l3_51 : Cond.methodLink RX3 51 yX3_sharedFault ∈ am_tbl := am_at 467 (by decide +kernel) (by decide +kernel)
theorem l3_54 : Cond.methodLink RX3 54 yX3_countFaults ∈ am_tbl := am_at 486 (by decide +kernel) (by decide +kernel)
theorem l4_29 : Cond.methodLink RX4 29 yX4_sortByWorth ∈ am_tbl := am_at 503 (by decide +kernel) (by decide +kernel)
theorem l4_41 : Cond.methodLink RX4 41 yX0_measure ∈ am_tbl := am_at 507 (by decide +kernel) (by decide +kernel)
theorem l4_47 : Cond.methodLink RX4 47 yX4_show ∈ am_tbl := am_at 508 (by decide +kernel) (by decide +kernel)
theorem l4_53 : (RX4, 53, yX6_boxOf, "MapNames") ∈ am_nest := by decide +kernel
theorem l4_57 : Cond.methodLink RX4 57 yX0_isFree ∈ am_tbl := am_at 513 (by decide +kernel) (by decide +kernel)
theorem l4_61 : Cond.methodLink RX4 61 yX4_clashesWithShown ∈ am_tbl := am_at 514 (by decide +kernel) (by decide +kernel)
theorem l4_64 : Cond.methodLink RX4 64 yX0_doClash ∈ am_tbl := am_at 518 (by decide +kernel) (by decide +kernel)
theorem l5_105 : Cond.methodLink RX5 105 yX5_countFrom ∈ am_tbl := am_at 400 (by decide +kernel) (by decide +kernel)
theorem l5_109 : Cond.methodLink RX5 109 yX5_freeBoxesWith ∈ am_tbl := am_at 411 (by decide +kernel) (by decide +kernel)
theorem l5_112 : Cond.methodLink RX5 112 yX5_isFullFrom ∈ am_tbl := am_at 423 (by decide +kernel) (by decide +kernel)
theorem l5_116 : Cond.methodLink RX5 116 yJ6_bitCount_0f7a4 ∈ am_tbl := am_at 612 (by decide +kernel) (by decide +kernel)
theorem l5_32 : Cond.methodLink RX5 32 yX0_measure ∈ am_tbl := am_at 349 (by decide +kernel) (by decide +kernel)
theorem l5_47 : Cond.methodLink RX5 47 yX0_sitesWithin ∈ am_tbl := am_at 350 (by decide +kernel) (by decide +kernel)
theorem l5_51 : Cond.methodLink RX5 51 yX5_clashingWith ∈ am_tbl := am_at 351 (by decide +kernel) (by decide +kernel)
theorem l5_55 : Cond.methodLink RX5 55 yX0_mayStand ∈ am_tbl := am_at 356 (by decide +kernel) (by decide +kernel)
theorem l5_59 : Cond.methodLink RX5 59 yX0_doClash ∈ am_tbl := am_at 355 (by decide +kernel) (by decide +kernel)
theorem l5_63 : (RX5, 63, yX6_boxOf, "MapNames") ∈ am_nest := by decide +kernel
theorem l5_66 : (RX5, 66, yX6_hasBit, "MapNames") ∈ am_nest := by decide +kernel
theorem l5_69 : Cond.methodLink RX5 69 yX1_everySite ∈ am_tbl := am_at 357 (by decide +kernel) (by decide +kernel)
theorem l5_73 : Cond.methodLink RX5 73 yX5_freeBoxes ∈ am_tbl := am_at 361 (by decide +kernel) (by decide +kernel)
theorem l5_76 : (RX5, 76, yX6_boxesOf, "MapNames") ∈ am_nest := by decide +kernel
theorem l5_82 : Cond.methodLink RX5 82 yX5_study ∈ am_tbl := am_at 345 (by decide +kernel) (by decide +kernel)
theorem l5_89 : Cond.methodLink RX5 89 yX1_worthOf ∈ am_tbl := am_at 369 (by decide +kernel) (by decide +kernel)
theorem l5_92 : Cond.methodLink RX5 92 yX5_seekBest ∈ am_tbl := am_at 374 (by decide +kernel) (by decide +kernel)
theorem l5_96 : Cond.methodLink RX5 96 arraycopyName ∈ am_tbl := am_at 377 (by decide +kernel) (by decide +kernel)
theorem l6_102 : Cond.methodLink RX6 102 yX6_toInt ∈ am_tbl := am_at 290 (by decide +kernel) (by decide +kernel)
theorem l6_121 : Cond.methodLink RX6 121 yX6_sized ∈ am_tbl := am_at 301 (by decide +kernel) (by decide +kernel)
theorem l6_124 : Cond.methodLink RX6 124 yX0_measure ∈ am_tbl := am_at 311 (by decide +kernel) (by decide +kernel)
theorem l6_128 : Cond.methodLink RX6 128 yX0_isFree ∈ am_tbl := am_at 317 (by decide +kernel) (by decide +kernel)
theorem l6_131 : Cond.methodLink RX6 131 yX0_doClash ∈ am_tbl := am_at 333 (by decide +kernel) (by decide +kernel)
theorem l6_134 : Cond.methodLink RX6 134 yX5_findBest ∈ am_tbl := am_at 341 (by decide +kernel) (by decide +kernel)
theorem l6_143 : Cond.methodLink RX6 143 yX5_study ∈ am_tbl := am_at 395 (by decide +kernel) (by decide +kernel)
theorem l6_147 : Cond.methodLink RX6 147 yX5_countFull ∈ am_tbl := am_at 396 (by decide +kernel) (by decide +kernel)
theorem l6_151 : Cond.methodLink RX6 151 yX5_countFullWith ∈ am_tbl := am_at 407 (by decide +kernel) (by decide +kernel)
theorem l6_154 : Cond.methodLink RX6 154 yX5_isThereFullWith ∈ am_tbl := am_at 419 (by decide +kernel) (by decide +kernel)
theorem l6_157 : Cond.methodLink RX6 157 yX1_everySite ∈ am_tbl := am_at 430 (by decide +kernel) (by decide +kernel)
theorem l6_160 : Cond.methodLink RX6 160 yX5_isThereFull ∈ am_tbl := am_at 431 (by decide +kernel) (by decide +kernel)
theorem l6_163 : Cond.methodLink RX6 163 yX1_worthOf ∈ am_tbl := am_at 439 (by decide +kernel) (by decide +kernel)
theorem l6_167 : Cond.methodLink RX6 167 yX3_countFaults ∈ am_tbl := am_at 456 (by decide +kernel) (by decide +kernel)
theorem l6_170 : Cond.methodLink RX6 170 yX3_ownFault ∈ am_tbl := am_at 476 (by decide +kernel) (by decide +kernel)
theorem l6_173 : Cond.methodLink RX6 173 yX3_sharedFault ∈ am_tbl := am_at 477 (by decide +kernel) (by decide +kernel)
theorem l6_176 : Cond.methodLink RX6 176 yX3_mendMost ∈ am_tbl := am_at 482 (by decide +kernel) (by decide +kernel)
theorem l6_179 : Cond.methodLink RX6 179 yX4_grow ∈ am_tbl := am_at 499 (by decide +kernel) (by decide +kernel)
theorem l6_186 : Cond.methodLink RX6 186 yX1_isSetForLines ∈ am_tbl := am_at 531 (by decide +kernel) (by decide +kernel)
theorem l6_189 : Cond.methodLink RX6 189 yX2_deal ∈ am_tbl := am_at 542 (by decide +kernel) (by decide +kernel)
theorem l6_198 : Cond.methodLink RX6 198 yX6_hasBit ∈ am_tbl := am_at 592 (by decide +kernel) (by decide +kernel)
theorem l6_201 : Cond.methodLink RX6 201 yX2_placeOf ∈ am_tbl := am_at 593 (by decide +kernel) (by decide +kernel)
theorem l6_204 : Cond.methodLink RX6 204 yX2_doCross ∈ am_tbl := am_at 601 (by decide +kernel) (by decide +kernel)
theorem l6_208 : Cond.methodLink RX6 208 yX5_freeBoxes ∈ am_tbl := am_at 606 (by decide +kernel) (by decide +kernel)
theorem l6_211 : Cond.methodLink RX6 211 yJ6_bitCount_0f7a4 ∈ am_tbl := am_at 607 (by decide +kernel) (by decide +kernel)
theorem l6_216 : Cond.methodLink RX6 216 yX5_countClashes ∈ am_tbl := am_at 608 (by decide +kernel) (by decide +kernel)
theorem l6_219 : Cond.methodLink RX6 219 Lib.Math.max.name ∈ am_tbl := am_at 304 (by decide +kernel) (by decide +kernel)
theorem l6_55 : Cond.methodLink RX6 55 yX6_isIn ∈ am_tbl := am_at 255 (by decide +kernel) (by decide +kernel)
theorem l6_69 : Cond.methodLink RX6 69 yX1_holds ∈ am_tbl := am_at 262 (by decide +kernel) (by decide +kernel)
theorem l6_73 : Cond.methodLink RX6 73 yX1_add ∈ am_tbl := am_at 267 (by decide +kernel) (by decide +kernel)
theorem l6_81 : Cond.methodLink RX6 81 yX1_has ∈ am_tbl := am_at 278 (by decide +kernel) (by decide +kernel)
theorem l6_91 : Cond.methodLink RX6 91 yX6_isCorner ∈ am_tbl := am_at 286 (by decide +kernel) (by decide +kernel)
theorem l6_94 : Cond.methodLink RX6 94 yX6_boxOf ∈ am_tbl := am_at 289 (by decide +kernel) (by decide +kernel)
theorem l7_105 : Cond.methodLink RX7 105 yX7_boxed ∈ am_tbl := am_at 751 (by decide +kernel) (by decide +kernel)
theorem l7_109 : Cond.methodLink RX7 109 yX7_left ∈ am_tbl := am_at 763 (by decide +kernel) (by decide +kernel)
theorem l7_113 : Cond.methodLink RX7 113 yX7_low ∈ am_tbl := am_at 767 (by decide +kernel) (by decide +kernel)
theorem l7_119 : Cond.methodLink RX7 119 yX7_isFree ∈ am_tbl := am_at 759 (by decide +kernel) (by decide +kernel)
theorem l7_123 : Cond.methodLink RX7 123 yX7_clashes ∈ am_tbl := am_at 775 (by decide +kernel) (by decide +kernel)
theorem l7_130 : Cond.methodLink RX7 130 yX7_layBits ∈ am_tbl := am_at 787 (by decide +kernel) (by decide +kernel)
theorem l7_136 : Cond.methodLink RX7 136 yX7_nextCorner ∈ am_tbl := am_at 791 (by decide +kernel) (by decide +kernel)
theorem l7_140 : Cond.methodLink RX7 140 yX7_step ∈ am_tbl := am_at 795 (by decide +kernel) (by decide +kernel)
theorem l7_146 : Cond.methodLink RX7 146 yX7_layBest ∈ am_tbl := am_at 783 (by decide +kernel) (by decide +kernel)
theorem l7_149 : Cond.methodLink RX7 149 yX7_layFull ∈ am_tbl := am_at 811 (by decide +kernel) (by decide +kernel)
theorem l7_153 : Cond.methodLink RX7 153 yX7_faultsWith ∈ am_tbl := am_at 851 (by decide +kernel) (by decide +kernel)
theorem l7_156 : Cond.methodLink RX7 156 yX7_faultsNow ∈ am_tbl := am_at 847 (by decide +kernel) (by decide +kernel)
theorem l7_160 : Cond.methodLink RX7 160 yX7_stirOnce ∈ am_tbl := am_at 863 (by decide +kernel) (by decide +kernel)
theorem l7_163 : Cond.methodLink RX7 163 yX7_mayShow ∈ am_tbl := am_at 888 (by decide +kernel) (by decide +kernel)
theorem l7_166 : Cond.methodLink RX7 166 yX7_show ∈ am_tbl := am_at 884 (by decide +kernel) (by decide +kernel)
theorem l7_172 : Cond.methodLink RX7 172 yX7_layLevels ∈ am_tbl := am_at 880 (by decide +kernel) (by decide +kernel)
theorem l7_175 : Cond.methodLink RX7 175 yX7_isBetween ∈ am_tbl := am_at 928 (by decide +kernel) (by decide +kernel)
theorem l7_182 : Cond.methodLink RX7 182 yX7_lengthOf ∈ am_tbl := am_at 920 (by decide +kernel) (by decide +kernel)
theorem l7_185 : Cond.methodLink RX7 185 yX7_lineCrosses ∈ am_tbl := am_at 924 (by decide +kernel) (by decide +kernel)
theorem l7_194 : Cond.methodLink RX7 194 yX7_isDeal ∈ am_tbl := am_at 912 (by decide +kernel) (by decide +kernel)
theorem l7_198 : Cond.methodLink RX7 198 yX7_weigh ∈ am_tbl := am_at 916 (by decide +kernel) (by decide +kernel)
theorem l7_201 : Cond.methodLink RX7 201 yX7_isSet ∈ am_tbl := am_at 904 (by decide +kernel) (by decide +kernel)
theorem l7_204 : Cond.methodLink RX7 204 yX7_layDeal ∈ am_tbl := am_at 908 (by decide +kernel) (by decide +kernel)
theorem l7_77 : Cond.methodLink RX7 77 yX7_in ∈ am_tbl := am_at 716 (by decide +kernel) (by decide +kernel)
theorem l7_93 : Cond.methodLink RX7 93 yX7_isSite ∈ am_tbl := am_at 730 (by decide +kernel) (by decide +kernel)
theorem l7_97 : Cond.methodLink RX7 97 yX7_isCorner ∈ am_tbl := am_at 738 (by decide +kernel) (by decide +kernel)
theorem k2_38 : Cond.constant RX2 38 1000000 ∈ am_tbl := am_at 547 (by decide +kernel) (by decide +kernel)
theorem k7_81 : Cond.constantLong RX7 81 3 ∈ am_tbl := am_at 741 (by decide +kernel) (by decide +kernel)
theorem k7_83 : Cond.constantLong RX7 83 10 ∈ am_tbl := am_at 714 (by decide +kernel) (by decide +kernel)
theorem k7_85 : Cond.constantLong RX7 85 400 ∈ am_tbl := am_at 715 (by decide +kernel) (by decide +kernel)
theorem k7_87 : Cond.constantLong RX7 87 60 ∈ am_tbl := am_at 723 (by decide +kernel) (by decide +kernel)
theorem k7_89 : Cond.constantLong RX7 89 20 ∈ am_tbl := am_at 724 (by decide +kernel) (by decide +kernel)
theorem k7_91 : Cond.constantLong RX7 91 99 ∈ am_tbl := am_at 725 (by decide +kernel) (by decide +kernel)
theorem k7_100 : Cond.constantLong RX7 100 40 ∈ am_tbl := am_at 746 (by decide +kernel) (by decide +kernel)
theorem k7_170 : Cond.constantLong RX7 170 5 ∈ am_tbl := am_at 879 (by decide +kernel) (by decide +kernel)
