theorem pr_move {mem : am_Mem} {σ : mp_S} (hI : Inv mem σ) (v x y : Int32) : Pr m6_move m7_move [.int v, .int x, .int y] mem := by
  obtain ⟨hσ, hC, hM⟩ := hI
  have hn := hσ.1
  have hW := hσ.2.1
  have hH := hσ.2.2.1
  have eW : (iz (s_W σ)).toInt64.toInt = s_W σ := izl (by omega) (by omega)
  have eH : (iz (s_H σ)).toInt64.toInt = s_H σ := izl (by omega) (by omega)
  intro P hP
  rcases sit v (s_n σ) with ⟨i, hi, rfl⟩ | hv
  case inr => exact am_ci rfl rfl rfl (sg6_move_0 (has_f hn hC.2.2.2.2.1 hv (z00' ⟨_, rfl, am_ci rfl rfl rfl (sg7_move_0 (isS_f hn hM.1.2.2.1 hv (z00' ⟨_, rfl, hP _ mem σ ⟨hσ, hC, hM⟩⟩)))⟩)))
  by_cases hx : 0 ≤ x.toInt ∧ x.toInt ≤ s_W σ
  case neg =>
    refine am_ci rfl rfl rfl (sg6_move_0 (has_t hn hC.2.2.2.2.1 hi (z10' (hol_f hC.1 hC.2.1 hW hH (fun q => hx q.1) (z00' ⟨_, rfl, am_ci rfl rfl rfl (sg7_move_0 (isS_t hn hM.1.2.2.1 hi (z10' ?_)))⟩)))))
    rw [hM.1.1]
    exact in_f (by rw [eW]; exact hx) (z00 ⟨_, rfl, hP _ mem σ ⟨hσ, hC, hM⟩⟩)
  by_cases hy : 0 ≤ y.toInt ∧ y.toInt ≤ s_H σ
  case neg =>
    refine am_ci rfl rfl rfl (sg6_move_0 (has_t hn hC.2.2.2.2.1 hi (z10' (hol_f hC.1 hC.2.1 hW hH (fun q => hy q.2) (z00' ⟨_, rfl, am_ci rfl rfl rfl (sg7_move_0 (isS_t hn hM.1.2.2.1 hi (z10' ?_)))⟩)))))
    rw [hM.1.1]
    refine in_t hx.1 (by rw [eW]; exact hx.2) (z10 ?_)
    rw [hM.1.2.1]
    exact in_f (by rw [eH]; exact hy) (z00' ⟨_, rfl, hP _ mem σ ⟨hσ, hC, hM⟩⟩)
  have e8 : vp_in (nI i) 8 := vp_in_nI (by omega) (by omega)
  have cl : (nI i).toNatClampNeg = i := nI_clamp (by omega)
  refine am_ci rfl rfl rfl (sg6_move_0 (has_t hn hC.2.2.2.2.1 hi (z10' (hol_t hC.1 hC.2.1 hW hH hx hy (z10' ⟨e8, e8, e8, e8, ⟨_, rfl, ?_⟩⟩)))))
  rw [cl]
  generalize hm1 : am_set (am_set mem 2 i x) 3 i y = m1
  have q30 : ∀ a, a ≠ 2 → a ≠ 3 → m1 a = mem a := fun a h1 h2 => by rw [← hm1, am_set_na _ _ h2, am_set_na _ _ h1]
  have hM1 : Mo m1 σ 1 0 := hM.ge (fun a ha => q30 a (by omega) (by omega))
  refine am_ci rfl rfl rfl (sg7_move_0 (isS_t hn hM1.1.2.2.1 hi (z10' ?_)))
  rw [hM1.1.1]
  refine in_t hx.1 (by rw [eW]; exact hx.2) (z10 ?_)
  rw [hM1.1.2.1]
  refine in_t hy.1 (by rw [eH]; exact hy.2) (z10' ⟨e8, e8, e8, e8, ⟨_, rfl, ?_⟩⟩)
  rw [cl, (hM1.2 i hi).1, (hM1.2 i hi).2.1, (hC.2.2.2.2.2 i hi).1, (hC.2.2.2.2.2 i hi).2.1, Int32.mul_comm]
  refine hP _ _ (σ.1, (hset (s_x σ) i x.toInt, hset (s_y σ) i y.toInt, σ.2.1.2.2), σ.2.2) ⟨⟨hn, hW, hH, hσ.2.2.2.1, hσ.2.2.2.2.1, fun j hj => ?_⟩, ⟨?_, ?_, ?_, ?_, ?_, fun j hj => ?_⟩, ⟨?_, fun j hj => ?_⟩⟩
  · have hj : j < s_n σ := hj
    have old := hσ.2.2.2.2.2 j hj
    refine ⟨?_, ?_, old.2.2⟩
    · show 0 ≤ hset (s_x σ) i x.toInt j ∧ hset (s_x σ) i x.toInt j ≤ s_W σ
      unfold hset; split
      · exact hx
      · exact old.1
    · show 0 ≤ hset (s_y σ) i y.toInt j ∧ hset (s_y σ) i y.toInt j ≤ s_H σ
      unfold hset; split
      · exact hy
      · exact old.2.1
  · rw [am_set_na _ _ (by decide), am_set_na _ _ (by decide), q30 1 (by decide) (by decide)]; exact hC.1
  · rw [am_set_na _ _ (by decide), am_set_na _ _ (by decide), q30 1 (by decide) (by decide)]; exact hC.2.1
  · rw [am_set_na _ _ (by decide), am_set_na _ _ (by decide), q30 1 (by decide) (by decide)]; exact hC.2.2.1
  · rw [am_set_na _ _ (by decide), am_set_na _ _ (by decide), q30 1 (by decide) (by decide)]; exact hC.2.2.2.1
  · rw [am_set_na _ _ (by decide), am_set_na _ _ (by decide), q30 1 (by decide) (by decide)]; exact hC.2.2.2.2.1
  · have hj : j < s_n σ := hj
    have old := hC.2.2.2.2.2 j hj
    have tt : ∀ a, a < 30 → (am_set (am_set m1 31 i x) 32 i y) a = m1 a := fun a ha => by rw [am_set_na _ _ (by omega), am_set_na _ _ (by omega)]
    rw [tt 2 (by omega), tt 3 (by omega), tt 4 (by omega), tt 5 (by omega), tt 6 (by omega), tt 7 (by omega), tt 21 (by omega), q30 4 (by decide) (by decide), q30 5 (by decide) (by decide), q30 6 (by decide) (by decide), q30 7 (by decide) (by decide), q30 21 (by decide) (by decide), ← hm1, am_set_at, am_set_na _ _ (show (2 : Nat) ≠ 3 by decide), am_set_at, am_set_na _ _ (show (3 : Nat) ≠ 2 by decide)]
    exact ⟨ite_iz (fun _ => (iz_self x).symm) (fun _ => old.1), ite_iz (fun _ => (iz_self y).symm) (fun _ => old.2.1), old.2.2⟩
  · rw [am_set_na _ _ (by decide), am_set_na _ _ (by decide)]; exact hM1.1
  · have hj : j < s_n σ := hj
    have old := hM1.2 j hj
    have tt : ∀ a, a ≠ 31 → a ≠ 32 → (am_set (am_set m1 31 i x) 32 i y) a = m1 a := fun a h1 h2 => by rw [am_set_na _ _ h2, am_set_na _ _ h1]
    rw [tt 33 (by decide) (by decide), tt 34 (by decide) (by decide), tt 35 (by decide) (by decide), tt 36 (by decide) (by decide), tt 37 (by decide) (by decide), am_set_at, am_set_na _ _ (show (31 : Nat) ≠ 32 by decide), am_set_at, am_set_na _ _ (show (32 : Nat) ≠ 31 by decide)]
    exact ⟨ite_iz (fun _ => (iz_self x).symm) (fun _ => old.1), ite_iz (fun _ => (iz_self y).symm) (fun _ => old.2.1), old.2.2⟩
theorem bt_or1 (x : Int32) {c k : Nat} (hc : c < 32) (hk : k < 32) : bt (x ||| ((1 : Int32) <<< (nI c &&& 31))) k = (bt x k || decide (k = c)) := by rw [b_or, bt_one c hc hk]
theorem bt_and1 (x : Int32) {c k : Nat} (hc : c < 32) (hk : k < 32) : bt (x &&& (((1 : Int32) <<< (nI c &&& 31)) ^^^ (-1 : Int32))) k = (bt x k && !decide (k = c)) := by rw [b_and, b_xor, bt_one c hc hk, b_m1 k hk, Bool.xor_true]
theorem pr_allow {mem : am_Mem} {σ : mp_S} (hI : Inv mem σ) (v w : Int32) (b : Bool) : Pr m6_allow m7_allow [.int v, .int w, .int (bi b)] mem := by
  obtain ⟨hσ, hC, hM⟩ := hI
  have hn := hσ.1
  intro P hP
  rcases sit v (s_n σ) with ⟨i, hi, rfl⟩ | hv
  case inr => exact am_ci rfl rfl rfl (sg6_allow_0 (has_f hn hC.2.2.2.2.1 hv (z00' ⟨_, rfl, am_ci rfl rfl rfl (sg7_allow_0 (isS_f hn hM.1.2.2.1 hv (z00' ⟨_, rfl, hP _ mem σ ⟨hσ, hC, hM⟩⟩)))⟩)))
  rcases sit w 4 with ⟨c, hc, rfl⟩ | hw
  case inr => exact am_ci rfl rfl rfl (sg6_allow_0 (has_t hn hC.2.2.2.2.1 hi (z10' (co6_f hw (z00' ⟨_, rfl, am_ci rfl rfl rfl (sg7_allow_0 (isS_t hn hM.1.2.2.1 hi (z10' (co7_f hw (z00' ⟨_, rfl, hP _ mem σ ⟨hσ, hC, hM⟩⟩)))))⟩)))))
  have e8 : vp_in (nI i) 8 := vp_in_nI (by omega) (by omega)
  have cl : (nI i).toNatClampNeg = i := nI_clamp (by omega)
  have e32 : vp_in (nI (4 * i + c)) 32 := vp_in_nI (by omega) (by omega)
  refine am_ci rfl rfl rfl (sg6_allow_0 (has_t hn hC.2.2.2.2.1 hi (z10' (co6_t hc (z10' (c6_boxOf ?_))))))
  rw [box_nI, nI_clamp (by omega), (hC.2.2.2.2.2 i hi).2.2.2.2.2.2 c hc, bi_nar]
  refine ⟨e32, c6_toInt ⟨e32, ⟨_, rfl, ?_⟩⟩⟩
  generalize hm1 : am_set mem 7 (4 * i + c) (bi b) = m1
  have q7 : ∀ a, a ≠ 7 → m1 a = mem a := fun a h1 => by rw [← hm1, am_set_na _ _ h1]
  have hM1 : Mo m1 σ 1 0 := hM.ge (fun a ha => q7 a (by omega))
  have fin : ∀ u : Int32, (∀ k, k < 4 → bt u k = if k = c then b else bt (m1 36 i) k) → P (bi (s_al σ i c)) (bi (s_al σ i c)) (am_set m1 36 i u) := by
    intro u hu
    refine hP _ _ (σ.1, σ.2.1, (fun j k => if j = i ∧ k = c then b else s_al σ j k), σ.2.2.2) ⟨⟨hn, hσ.2.1, hσ.2.2.1, hσ.2.2.2.1, hσ.2.2.2.2.1, hσ.2.2.2.2.2⟩, ⟨?_, ?_, ?_, ?_, ?_, fun j hj => ?_⟩, ⟨?_, fun j hj => ?_⟩⟩
    · rw [am_set_na _ _ (by decide), q7 1 (by decide)]; exact hC.1
    · rw [am_set_na _ _ (by decide), q7 1 (by decide)]; exact hC.2.1
    · rw [am_set_na _ _ (by decide), q7 1 (by decide)]; exact hC.2.2.1
    · rw [am_set_na _ _ (by decide), q7 1 (by decide)]; exact hC.2.2.2.1
    · rw [am_set_na _ _ (by decide), q7 1 (by decide)]; exact hC.2.2.2.2.1
    · have hj : j < s_n σ := hj
      have old := hC.2.2.2.2.2 j hj
      have tt : ∀ a, a < 30 → a ≠ 7 → (am_set m1 36 i u) a = mem a := fun a ha h7 => by rw [am_set_na _ _ (by omega), q7 a h7]
      rw [tt 2 (by omega) (by decide), tt 3 (by omega) (by decide), tt 4 (by omega) (by decide), tt 5 (by omega) (by decide), tt 6 (by omega) (by decide), tt 21 (by omega) (by decide), am_set_na _ _ (by decide)]
      refine ⟨old.1, old.2.1, old.2.2.1, old.2.2.2.1, old.2.2.2.2.1, old.2.2.2.2.2.1, fun k hk => ?_⟩
      rw [← hm1, am_set_at]
      show _ = bi (if j = i ∧ k = c then b else s_al σ j k)
      by_cases h : j = i ∧ k = c
      · rw [if_pos h, if_pos (by omega)]
      · rw [if_neg h, if_neg (by omega)]; exact old.2.2.2.2.2.2 k hk
    · rw [am_set_na _ _ (by decide)]; exact hM1.1
    · have hj : j < s_n σ := hj
      have old := hM1.2 j hj
      rw [am_set_na _ _ (by decide), am_set_na _ _ (by decide), am_set_na _ _ (by decide), am_set_na _ _ (by decide), am_set_na _ _ (by decide), am_set_na _ _ (by decide)]
      refine ⟨old.1, old.2.1, old.2.2.1, old.2.2.2.1, old.2.2.2.2.1, old.2.2.2.2.2.1, fun k hk => ?_⟩
      rw [am_set_at]
      show _ = (if j = i ∧ k = c then b else s_al σ j k)
      by_cases hji : j = i
      · subst hji
        rw [if_pos rfl, hu k hk, old.2.2.2.2.2.2 k hk]
        simp
      · rw [if_neg hji, if_neg (fun q => hji q.1)]; exact old.2.2.2.2.2.2 k hk
  refine am_ci rfl rfl rfl (sg7_allow_0 (isS_t hn hM1.1.2.2.1 hi (z10' (co7_t hc (z10' ?_)))))
  rw [cl, bit_s _ c (by omega), (hM1.2 i hi).2.2.2.2.2.2 c hc]
  refine ⟨e8, fun q => ⟨e8, e8, ⟨_, rfl, fin _ (fun k hk => ?_)⟩⟩, fun q => ⟨e8, e8, ⟨_, rfl, fin _ (fun k hk => ?_)⟩⟩⟩
  · rw [bt_and1 _ (by omega) (by omega), bi_0.mp q]
    by_cases hkc : k = c
    · rw [if_pos hkc, decide_eq_true hkc]; simp
    · rw [if_neg hkc, decide_eq_false hkc]; simp
  · rw [bt_or1 _ (by omega) (by omega), bi_n0.mp q]
    by_cases hkc : k = c
    · rw [if_pos hkc, decide_eq_true hkc]; simp
    · rw [if_neg hkc, decide_eq_false hkc]; simp
theorem pr_rule {mem : am_Mem} {σ : mp_S} (hI : Inv mem σ) (w v : Int32) : Pr m6_rule m7_rule [.int w, .int v] mem := by
  obtain ⟨hσ, hC, hM⟩ := hI
  have hn := hσ.1
  intro P hP
  have out : P (-2) (-2) mem := hP _ mem σ ⟨hσ, hC, hM⟩
  by_cases h0 : w = 0
  · subst h0
    by_cases hv : 1 ≤ v.toInt ∧ v.toInt ≤ 40
    · refine am_ci rfl rfl rfl (sg6_rule_0 (z00' (isIn_t hv.1 hv.2 (z10 ⟨_, rfl, ?_⟩))))
      rw [hC.2.2.1]
      generalize hm1 : am_set mem 1 2 v = m1
      have q1 : ∀ a, a ≠ 1 → m1 a = mem a := fun a h1 => by rw [← hm1, am_set_na _ _ h1]
      have hM1 : Mo m1 σ 1 0 := hM.ge (fun a ha => q1 a (by omega))
      refine am_ci rfl rfl rfl (sg7_rule_0 (z00' (in_t hv.1 hv.2 (z10' (sg7_rule_36 (z00' (sg7_rule_51 (z00' (sg7_rule_65 ⟨fun _ => ⟨_, rfl, ?_⟩, fun q => absurd q (by decide)⟩)))))))))
      rw [hM1.1.2.2.2.1]
      refine hP _ _ (s_sz σ v.toInt) ⟨s_ok_sz hσ hv.1 hv.2, ⟨?_, ?_, ?_, ?_, ?_, fun j hj => ?_⟩, ⟨⟨?_, ?_, ?_, ?_, ?_, ?_, ?_⟩, fun j hj => ?_⟩⟩
      · rw [am_set_na _ _ (by decide), am_set_na _ _ (by decide), ← hm1, am_set_nj _ _ (by decide)]; exact hC.1
      · rw [am_set_na _ _ (by decide), am_set_na _ _ (by decide), ← hm1, am_set_nj _ _ (by decide)]; exact hC.2.1
      · rw [am_set_na _ _ (by decide), am_set_na _ _ (by decide), ← hm1, am_set_eq]; exact (iz_self v).symm
      · rw [am_set_na _ _ (by decide), am_set_na _ _ (by decide), ← hm1, am_set_nj _ _ (by decide)]; exact hC.2.2.2.1
      · rw [am_set_na _ _ (by decide), am_set_na _ _ (by decide), ← hm1, am_set_nj _ _ (by decide)]; exact hC.2.2.2.2.1
      · have tt : ∀ a, a < 30 → a ≠ 1 → (am_set (am_set m1 30 10 v) 30 11 (am_set m1 30 10 v 30 11)) a = mem a := fun a ha h1 => by rw [am_set_na _ _ (by omega), am_set_na _ _ (by omega), q1 a h1]
        rw [tt 2 (by omega) (by decide), tt 3 (by omega) (by decide), tt 4 (by omega) (by decide), tt 5 (by omega) (by decide), tt 6 (by omega) (by decide), tt 7 (by omega) (by decide), tt 21 (by omega) (by decide)]
        exact hC.2.2.2.2.2 j hj
      · rw [am_set_nj _ _ (by decide), am_set_nj _ _ (by decide)]; exact hM1.1.1
      · rw [am_set_nj _ _ (by decide), am_set_nj _ _ (by decide)]; exact hM1.1.2.1
      · rw [am_set_nj _ _ (by decide), am_set_nj _ _ (by decide)]; exact hM1.1.2.2.1
      · rw [am_set_nj _ _ (by decide), am_set_eq]; exact (iz_self v).symm
      · rw [am_set_eq, am_set_nj _ _ (by decide)]; exact hM1.1.2.2.2.2.1
      · rw [am_set_nj _ _ (by decide), am_set_nj _ _ (by decide)]; exact hM1.1.2.2.2.2.2.1
      · rw [am_set_nj _ _ (by decide), am_set_nj _ _ (by decide)]; exact hM1.1.2.2.2.2.2.2
      · have tt : ∀ a, a ≠ 30 → (am_set (am_set m1 30 10 v) 30 11 (am_set m1 30 10 v 30 11)) a = m1 a := fun a ha => by rw [am_set_na _ _ ha, am_set_na _ _ ha]
        rw [tt 31 (by decide), tt 32 (by decide), tt 33 (by decide), tt 34 (by decide), tt 35 (by decide), tt 36 (by decide), tt 37 (by decide)]
        exact hM1.2 j hj
    · exact am_ci rfl rfl rfl (sg6_rule_0 (z00' (isIn_f hv (z00 (sg6_rule_32 ⟨fun _ => ⟨_, rfl, am_ci rfl rfl rfl (sg7_rule_0 (z00' (in_f hv (z00' (sg7_rule_16 ⟨fun _ => ⟨_, rfl, out⟩, fun q => absurd q (by decide)⟩)))))⟩, fun q => absurd q (by decide)⟩)))))
  · by_cases h1 : w = 1
    · subst h1
      by_cases hv : 0 ≤ v.toInt ∧ v.toInt ≤ 20
      · refine am_ci rfl rfl rfl (sg6_rule_0 ⟨fun _ => sg6_rule_32 ⟨fun q => absurd rfl q, fun _ => isIn_t hv.1 hv.2 (z10 ⟨_, rfl, ?_⟩)⟩, fun q => absurd q (by decide)⟩)
        rw [hC.2.2.2.1]
        generalize hm1 : am_set mem 1 3 v = m1
        have q1 : ∀ a, a ≠ 1 → m1 a = mem a := fun a h1 => by rw [← hm1, am_set_na _ _ h1]
        have hM1 : Mo m1 σ 1 0 := hM.ge (fun a ha => q1 a (by omega))
        refine am_ci rfl rfl rfl (sg7_rule_0 (z10' (sg7_rule_16 ⟨fun q => absurd rfl q, fun _ => in_t hv.1 hv.2 (z10' (sg7_rule_36 (z10' (sg7_rule_51 (z10' (sg7_rule_65 ⟨fun q => absurd rfl q, fun _ => ⟨_, rfl, ?_⟩⟩))))))⟩)))
        rw [hM1.1.2.2.2.2.1]
        refine hP _ _ ((s_n σ, s_W σ, s_H σ, s_z σ, v.toInt), σ.2) ⟨⟨hn, hσ.2.1, hσ.2.2.1, hσ.2.2.2.1, hv, hσ.2.2.2.2.2⟩, ⟨?_, ?_, ?_, ?_, ?_, fun j hj => ?_⟩, ⟨⟨?_, ?_, ?_, ?_, ?_, ?_, ?_⟩, fun j hj => ?_⟩⟩
        · rw [am_set_na _ _ (by decide), am_set_na _ _ (by decide), ← hm1, am_set_nj _ _ (by decide)]; exact hC.1
        · rw [am_set_na _ _ (by decide), am_set_na _ _ (by decide), ← hm1, am_set_nj _ _ (by decide)]; exact hC.2.1
        · rw [am_set_na _ _ (by decide), am_set_na _ _ (by decide), ← hm1, am_set_nj _ _ (by decide)]; exact hC.2.2.1
        · rw [am_set_na _ _ (by decide), am_set_na _ _ (by decide), ← hm1, am_set_eq]; exact (iz_self v).symm
        · rw [am_set_na _ _ (by decide), am_set_na _ _ (by decide), ← hm1, am_set_nj _ _ (by decide)]; exact hC.2.2.2.2.1
        · have tt : ∀ a, a < 30 → a ≠ 1 → (am_set (am_set m1 30 10 (iz (s_z σ))) 30 11 v) a = mem a := fun a ha h1 => by rw [am_set_na _ _ (by omega), am_set_na _ _ (by omega), q1 a h1]
          rw [hM1.1.2.2.2.1, tt 2 (by omega) (by decide), tt 3 (by omega) (by decide), tt 4 (by omega) (by decide), tt 5 (by omega) (by decide), tt 6 (by omega) (by decide), tt 7 (by omega) (by decide), tt 21 (by omega) (by decide)]
          exact hC.2.2.2.2.2 j hj
        · rw [am_set_nj _ _ (by decide), am_set_nj _ _ (by decide)]; exact hM1.1.1
        · rw [am_set_nj _ _ (by decide), am_set_nj _ _ (by decide)]; exact hM1.1.2.1
        · rw [am_set_nj _ _ (by decide), am_set_nj _ _ (by decide)]; exact hM1.1.2.2.1
        · rw [am_set_nj _ _ (by decide), am_set_eq]; exact hM1.1.2.2.2.1
        · rw [am_set_eq]; exact (iz_self v).symm
        · rw [am_set_nj _ _ (by decide), am_set_nj _ _ (by decide)]; exact hM1.1.2.2.2.2.2.1
        · rw [am_set_nj _ _ (by decide), am_set_nj _ _ (by decide)]; exact hM1.1.2.2.2.2.2.2
        · have tt : ∀ a, a ≠ 30 → (am_set (am_set m1 30 10 (iz (s_z σ))) 30 11 v) a = m1 a := fun a ha => by rw [am_set_na _ _ ha, am_set_na _ _ ha]
          rw [hM1.1.2.2.2.1, tt 31 (by decide), tt 32 (by decide), tt 33 (by decide), tt 34 (by decide), tt 35 (by decide), tt 36 (by decide), tt 37 (by decide)]
          exact hM1.2 j hj
      · exact am_ci rfl rfl rfl (sg6_rule_0 ⟨fun _ => sg6_rule_32 ⟨fun q => absurd rfl q, fun _ => isIn_f hv (z00 ⟨_, rfl, am_ci rfl rfl rfl (sg7_rule_0 (z10' (sg7_rule_16 ⟨fun q => absurd rfl q, fun _ => in_f hv (z00' ⟨_, rfl, out⟩)⟩)))⟩)⟩, fun q => absurd q (by decide)⟩)
    · exact am_ci rfl rfl rfl (sg6_rule_0 ⟨fun _ => sg6_rule_32 ⟨fun _ => ⟨_, rfl, am_ci rfl rfl rfl (sg7_rule_0 ⟨fun _ => sg7_rule_16 ⟨fun _ => ⟨_, rfl, out⟩, fun q => absurd q h1⟩, fun q => absurd q h0⟩)⟩, fun q => absurd q h1⟩, fun q => absurd q h0⟩)
theorem pr_about {mem : am_Mem} {σ : mp_S} (hI : Inv mem σ) (v w : Int32) : Pr m6_about m7_about [.int v, .int w] mem := by
  obtain ⟨hσ, hC, hM⟩ := hI
  have hn := hσ.1
  intro P hP
  have out : ∀ x, P x x mem := fun x => hP x mem σ ⟨hσ, hC, hM⟩
  rcases sit v (s_n σ) with ⟨i, hi, rfl⟩ | hv
  case inr => exact am_ci rfl rfl rfl (sg6_about_0 (has_f hn hC.2.2.2.2.1 hv (z00' ⟨_, rfl, am_ci rfl rfl rfl (sg7_about_0 (isS_f hn hM.1.2.2.1 hv (z00' ⟨_, rfl, out _⟩)))⟩)))
  have e8 : vp_in (nI i) 8 := vp_in_nI (by omega) (by omega)
  have cl : (nI i).toNatClampNeg = i := nI_clamp (by omega)
  obtain ⟨c1, c2, c3, c4, c5, -⟩ := hC.2.2.2.2.2 i hi
  obtain ⟨r1, r2, r3, r4, r5, -⟩ := hM.2 i hi
  obtain ⟨-, -, o3, o4, -⟩ := hσ.2.2.2.2.2 i hi
  have oz := hσ.2.2.2.1
  refine am_ci rfl rfl rfl (sg6_about_0 (has_t hn hC.2.2.2.2.1 hi (z10' ?_)))
  rw [cl, c1, c2, c3, c4, c5, hC.2.2.1]
  have mod : ∀ {x : Int32}, (∀ (Q : Option Value → am_Mem → Prop), Q (some (.int x)) mem → (w.toInt = 0 → vp_in (nI i) 8 ∧ Q (some (.int (iz (s_x σ i)))) mem) ∧ (w.toInt = 1 → vp_in (nI i) 8 ∧ Q (some (.int (iz (s_y σ i)))) mem) ∧ (w.toInt = 2 → vp_in (nI i) 8 ∧ Q (some (.int (iz (s_wd σ i)))) mem) ∧ (w.toInt = 3 → vp_in (nI i) 8 ∧ Q (some (.int (iz (s_ht σ i)))) mem) ∧ (w.toInt = 4 → vp_in (nI i) 8 ∧ Q (some (.int (iz (s_wo σ i)))) mem) ∧ (w.toInt = 5 → vp_in (nI i) 8 ∧ am_Ci m7_boxed 19 [.ref 30, .int (iz (s_wd σ i))] mem (fun r_2 mem_2 => Q (some (.int r_2)) mem_2)) ∧ (w.toInt = 6 → vp_in (nI i) 8 ∧ am_Ci m7_boxed 19 [.ref 30, .int (iz (s_ht σ i))] mem (fun r_3 mem_3 => Q (some (.int r_3)) mem_3)) ∧ ((w.toInt < 0 ∨ 6 < w.toInt) → Q (some (.int (-2))) mem)) → am_Ci m7_about 20 [.ref 30, .int (nI i), .int w] mem (fun r2 mem2 => P x r2 mem2) := by
    intro x hx
    refine am_ci rfl rfl rfl (sg7_about_0 (isS_t hn hM.1.2.2.1 hi (z10' ?_)))
    rw [cl, r1, r2, r3, r4, r5]
    exact hx (fun r mem' => ∃ y, r = some (.int y) ∧ P x y mem') ⟨_, rfl, out x⟩
  refine ⟨fun q => ⟨e8, ⟨_, rfl, mod (fun Q hQ => ?_)⟩⟩, fun q => ⟨e8, ⟨_, rfl, mod (fun Q hQ => ?_)⟩⟩, fun q => ⟨e8, ⟨_, rfl, mod (fun Q hQ => ?_)⟩⟩, fun q => ⟨e8, ⟨_, rfl, mod (fun Q hQ => ?_)⟩⟩, fun q => ⟨e8, ⟨_, rfl, mod (fun Q hQ => ?_)⟩⟩, fun q => ⟨e8, c6_sized oz.1 oz.2 o3.1 o3.2 ⟨_, rfl, mod (fun Q hQ => ?_)⟩⟩, fun q => ⟨e8, c6_sized oz.1 oz.2 o4.1 (by omega) ⟨_, rfl, mod (fun Q hQ => ?_)⟩⟩, fun q => ⟨_, rfl, mod (fun Q hQ => ?_)⟩⟩
  · exact ⟨fun _ => ⟨e8, hQ⟩, fun _ => by omega, fun _ => by omega, fun _ => by omega, fun _ => by omega, fun _ => by omega, fun _ => by omega, fun _ => by omega⟩
  · exact ⟨fun _ => by omega, fun _ => ⟨e8, hQ⟩, fun _ => by omega, fun _ => by omega, fun _ => by omega, fun _ => by omega, fun _ => by omega, fun _ => by omega⟩
  · exact ⟨fun _ => by omega, fun _ => by omega, fun _ => ⟨e8, hQ⟩, fun _ => by omega, fun _ => by omega, fun _ => by omega, fun _ => by omega, fun _ => by omega⟩
  · exact ⟨fun _ => by omega, fun _ => by omega, fun _ => by omega, fun _ => ⟨e8, hQ⟩, fun _ => by omega, fun _ => by omega, fun _ => by omega, fun _ => by omega⟩
  · exact ⟨fun _ => by omega, fun _ => by omega, fun _ => by omega, fun _ => by omega, fun _ => ⟨e8, hQ⟩, fun _ => by omega, fun _ => by omega, fun _ => by omega⟩
  · exact ⟨fun _ => by omega, fun _ => by omega, fun _ => by omega, fun _ => by omega, fun _ => by omega, fun _ => ⟨e8, c7_boxed oz.1 oz.2 o3.1 o3.2 hM.1.2.2.2.1 hQ⟩, fun _ => by omega, fun _ => by omega⟩
  · exact ⟨fun _ => by omega, fun _ => by omega, fun _ => by omega, fun _ => by omega, fun _ => by omega, fun _ => by omega, fun _ => ⟨e8, c7_boxed oz.1 oz.2 o4.1 (by omega) hM.1.2.2.2.1 hQ⟩, fun _ => by omega⟩
  · exact ⟨fun _ => by omega, fun _ => by omega, fun _ => by omega, fun _ => by omega, fun _ => by omega, fun _ => by omega, fun _ => by omega, fun _ => hQ⟩
