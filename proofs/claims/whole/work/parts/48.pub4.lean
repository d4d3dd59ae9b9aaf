theorem Inv.hx {mem m1 : am_Mem} {σ : mp_S} (hI : Inv mem σ) (s1 : sm 8 15 mem m1) (b1 : Bx m1 (s_sz σ (s_z σ)) 1 (s_n σ)) : Inv m1 σ ∧ Hx m1 σ := by
  have hI1 : Inv m1 σ := hI.c (fun a ha => s1 a (by omega))
  exact ⟨hI1, b1, hI1.2.1.cz (s_z σ)⟩
theorem pr_faults {mem : am_Mem} {σ : mp_S} (hI : Inv mem σ) : Pr m6_faults m7_faults [] mem := by
  intro P hP
  have hσ := hI.1
  have hz := hσ.2.2.2.1
  refine am_ci rfl rfl rfl (sg6_faults_0 ?_)
  rw [hI.2.1.2.2.1]
  refine c0_measure hσ hI.2.1 hz.1 hz.2 (z := 1) (by omega) (by omega) (fun m1 s1 b1 => ?_)
  obtain ⟨hI1, hX⟩ := hI.hx s1 b1
  refine c3_countFaults hσ hX hI1.2.1.hdc hσ.hok ⟨_, rfl, ?_⟩
  exact am_ci rfl rfl rfl (sg7_faults_0 (c7_faultsNow hσ hI1.2.2.mh hI1.2.2.hdm hσ.hok ⟨_, rfl, hP _ m1 σ hI1⟩))
theorem pr_stands {mem : am_Mem} {σ : mp_S} (hI : Inv mem σ) : Pr m6_stands m7_stands [] mem := by
  intro P hP
  have hσ := hI.1
  have hz := hσ.2.2.2.1
  refine am_ci rfl rfl rfl (sg6_stands_0 ?_)
  rw [hI.2.1.2.2.1]
  refine c0_measure hσ hI.2.1 hz.1 hz.2 (z := 1) (by omega) (by omega) (fun m1 s1 b1 => ?_)
  obtain ⟨hI1, hX⟩ := hI.hx s1 b1
  refine c3_countFaults hσ hX hI1.2.1.hdc hσ.hok ⟨fun q => sg6_stands_30 (c6_toInt (b := false) ⟨_, rfl, ?_⟩), fun q => sg6_stands_30 (c6_toInt (b := true) ⟨_, rfl, ?_⟩)⟩
  · exact am_ci rfl rfl rfl (sg7_stands_0 (c7_faultsNow hσ hI1.2.2.mh hI1.2.2.hdm hσ.hok ⟨fun _ => ⟨_, rfl, hP _ m1 σ hI1⟩, fun w => absurd w q⟩))
  · exact am_ci rfl rfl rfl (sg7_stands_0 (c7_faultsNow hσ hI1.2.2.mh hI1.2.2.hdm hσ.hok ⟨fun w => absurd q w, fun _ => ⟨_, rfl, hP _ m1 σ hI1⟩⟩))
theorem pr_faultsOf {mem : am_Mem} {σ : mp_S} (hI : Inv mem σ) (v : Int32) : Pr m6_faultsOf m7_faultsOf [.int v] mem := by
  intro P hP
  have hσ := hI.1
  have hn := hσ.1
  have hz := hσ.2.2.2.1
  have hN := hI.2.1.2.2.2.2.1
  have hN7 := hI.2.2.1.2.2.1
  rcases sit v (s_n σ) with ⟨i, hi, rfl⟩ | hv
  case inr => exact am_ci rfl rfl rfl (sg6_faultsOf_0 (has_f hn hN hv (z00' ⟨_, rfl, am_ci rfl rfl rfl (sg7_faultsOf_0 (isS_f hn hN7 hv (z00 ⟨_, rfl, hP _ mem σ hI⟩)))⟩)))
  refine am_ci rfl rfl rfl (sg6_faultsOf_0 (has_t hn hN hi (z10' ?_)))
  rw [hI.2.1.2.2.1]
  refine c0_measure hσ hI.2.1 hz.1 hz.2 (z := 1) (by omega) (by omega) (fun m1 s1 b1 => ?_)
  obtain ⟨hI1, hX⟩ := hI.hx s1 b1
  refine c3_ownFault hσ hX hI1.2.1.hdc hσ.hok hi ?_
  have loop : ∀ (r o : Nat), o + r = s_n σ → am_J m6_faultsOf 20 39 [.ref 0, .int (nI i), .int (nI (own σ (s_hd σ) i + sumN (fun o => if o = i then 0 else shr σ (s_hd σ) i o) o)), .int (nI o)] [] m1 (fun r mem' => ∃ x, r = some (.int x) ∧ am_Ci m7_faultsOf 20 [.ref 30, .int (nI i)] mem' (fun r2 mem2 => P x r2 mem2)) := by
    intro r
    induction r with
    | zero =>
      intro o ho
      have : o = s_n σ := by omega
      subst this
      refine sg6_faultsOf_39 ⟨fun _ => ⟨_, rfl, ?_⟩, fun q => absurd (by rw [hI1.2.1.2.2.2.2.1]; exact Int32.le_refl _) q⟩
      exact am_ci rfl rfl rfl (sg7_faultsOf_0 (isS_t hn hI1.2.2.1.2.2.1 hi (z10 (c7_faultsWith hσ hI1.2.2 rfl hi ⟨_, rfl, hP _ m1 σ hI1⟩))))
    | succ r ih =>
      intro o ho
      have nxt := ih (o + 1) (by omega)
      refine sg6_faultsOf_39 ⟨fun q => absurd q (by rw [hI1.2.1.2.2.2.2.1, nI_leI (by omega) (by omega)]; omega), fun _ => ?_⟩
      rw [nI_eq (by omega) (by omega)]
      refine ⟨fun q => sg6_faultsOf_67 ?_, fun q => c3_sharedFault hσ hX hI1.2.1.hdc hσ.hok hi (by omega) (sg6_faultsOf_67 ?_)⟩
      · simp only [sumN, if_pos q, Nat.add_zero] at nxt
        rw [nI_1]; exact nxt
      · simp only [sumN, if_neg q] at nxt
        rw [nI_1, nI_add, Nat.add_assoc]; exact nxt
  exact loop (s_n σ) 0 (by omega)
theorem pr_stir {mem : am_Mem} {σ : mp_S} (hI : Inv mem σ) : Pr m6_stir m7_stir [] mem := by
  intro P hP
  have hσ := hI.1
  have hz := hσ.2.2.2.1
  refine am_ci rfl rfl rfl (sg6_stir_0 ?_)
  rw [hI.2.1.2.2.1]
  refine c0_measure hσ hI.2.1 hz.1 hz.2 (z := 1) (by omega) (by omega) (fun m1 s1 b1 => ?_)
  obtain ⟨hI1, hX⟩ := hI.hx s1 b1
  refine c3_mendMost hσ hX hI1.2.1.hdc hσ.hok (fun m2 s2 h2 => ⟨_, rfl, ?_⟩)
  have hM2 : Mo m2 σ 1 0 := hI1.2.2.ge (fun a ha => s2 a (by omega))
  refine am_ci rfl rfl rfl (sg7_stir_0 (c7_stirOnce hσ hM2.mh hM2.hdm hσ.hok (fun m3 s3 h3 => ⟨_, rfl, ?_⟩)))
  exact hP _ m3 _ (hI1.sh (aft_ok hσ.hok) (fun a ha => s2 a (by omega)) h2 s3 h3)
theorem pr_settle {mem : am_Mem} {σ : mp_S} (hI : Inv mem σ) : Pr m6_settle m7_settle [] mem := by
  intro P hP
  have hσ := hI.1
  have hn := hσ.1
  have hz := hσ.2.2.2.1
  refine am_ci rfl rfl rfl (sg6_settle_0 ?_)
  rw [hI.2.1.2.2.1]
  refine c0_measure hσ hI.2.1 hz.1 hz.2 (z := 1) (by omega) (by omega) (fun m1 s1 b1 => ?_)
  obtain ⟨hI1, hX⟩ := hI.hx s1 b1
  have fin0 : ∀ m2, sm 21 22 m1 m2 → HdC m2 (s_n σ) (stl σ (s_n σ) 36 (s_hd σ)).2 → am_Ci m7_settle 20 [.ref 30] m2 (fun r2 mem2 => P (nI (stl σ (s_n σ) 36 (s_hd σ)).1) r2 mem2) := by
    intro m2 s2 h2
    have hM2 : Mo m2 σ 1 0 := hI1.2.2.ge (fun a ha => s2 a (by omega))
    exact c7_settle hσ hM2.mh hM2.hdm hσ.hok (fun m3 s3 h3 => hP _ m3 _ (hI1.sh (stl_ok 36 _ hσ.hok) (fun a ha => s2 a (by omega)) h2 s3 h3))
  obtain ⟨S, hS⟩ : ∃ S, S = stl σ (s_n σ) 36 (s_hd σ) := ⟨_, rfl⟩
  have fin : ∀ m2, sm 21 22 m1 m2 → HdC m2 (s_n σ) S.2 → am_Ci m7_settle 20 [.ref 30] m2 (fun r2 mem2 => P (nI S.1) r2 mem2) := by
    rw [hS]; exact fin0
  have loop : ∀ (f k : Nat) (hd : Nat → Int) (m : am_Mem), k + f = 36 → sm 21 22 m1 m → HdC m (s_n σ) hd → hok (s_n σ) hd → S.1 = k + (stl σ (s_n σ) f hd).1 → S.2 = (stl σ (s_n σ) f hd).2 → am_J m6_settle 20 17 [.ref 0, .int (nI k)] [] m (fun r mem' => ∃ x, r = some (.int x) ∧ am_Ci m7_settle 20 [.ref 30] mem' (fun r2 mem2 => P x r2 mem2)) := by
    intro f
    induction f with
    | zero =>
      intro k hd m hk hm hh ho e1 e2
      have : k = 36 := by omega
      subst this
      refine sg6_settle_17 ⟨fun _ => ⟨_, rfl, ?_⟩, fun q => absurd (by decide) q⟩
      have e1 : S.1 = 36 := e1
      have := fin m hm (by rw [e2]; exact hh)
      rw [e1] at this
      exact this
    | succ f ih =>
      intro k hd m hk hm hh ho e1 e2
      refine sg6_settle_17 ⟨fun q => absurd q (by rw [show (36 : Int32) = nI 36 from rfl, nI_leI (by omega) (by omega)]; omega), fun _ => ?_⟩
      refine c3_mendMost hσ (hX.keep (fun a h1 h2 => hm a (by omega))) hh ho (fun m2 s2 h2 => ?_)
      rw [iz_n9 hn]
      refine ⟨fun q => ?_, fun q => ⟨_, rfl, ?_⟩⟩
      · rw [nI_1]
        simp only [stl, if_neg q] at e1 e2
        exact ih (k + 1) _ m2 (by omega) (sm_tr hm s2) h2 (aft_ok ho) (by rw [e1]; show k + (_ + 1) = _; omega) e2
      · simp only [stl, if_pos q] at e1 e2
        have e3 : aft hd (stir σ (s_n σ) hd).2 = hd := by rw [q]; rfl
        rw [e3] at h2
        have := fin m2 (sm_tr hm s2) (by rw [e2]; exact h2)
        rw [e1, Nat.add_zero] at this
        exact this
  exact loop 36 0 (s_hd σ) m1 (by omega) (sm_rf _ _ _) hI1.2.1.hdc hσ.hok (by rw [hS, Nat.zero_add]) (by rw [hS])
/-! LEVELS -/
theorem Inv.gr {mem m1 : am_Mem} {σ : mp_S} (hI : Inv mem σ) (s1 : ∀ a, a < 8 ∨ (14 < a ∧ a < 23) ∨ 25 < a → m1 a = mem a) : Inv m1 σ := hI.c (fun a ha => s1 a (by omega))
theorem Inv.ml {mem m1 : am_Mem} {σ : mp_S} (hI : Inv mem σ) (s1 : mL mem m1) (hM : Mo m1 σ 1 0) : Inv m1 σ := ⟨hI.1, hI.2.1.keep (fun a ha => s1.1 a (by omega) (by omega) (by omega)), hM⟩
theorem pr_comes {mem : am_Mem} {σ : mp_S} (hI : Inv mem σ) (v : Int32) : Pr m6_comes m7_comes [.int v] mem := by
  intro P hP
  have hσ := hI.1
  have hn := hσ.1
  rcases sit v (s_n σ) with ⟨i, hi, rfl⟩ | hv
  case inr => exact am_ci rfl rfl rfl (sg6_comes_0 (has_f hn hI.2.1.2.2.2.2.1 hv (z00' ⟨_, rfl, am_ci rfl rfl rfl (sg7_comes_0 (isS_f hn hI.2.2.1.2.2.1 hv (z00' ⟨_, rfl, hP _ mem σ hI⟩)))⟩)))
  have e8 : vp_in (nI i) 8 := vp_in_nI (by omega) (by omega)
  have cl : (nI i).toNatClampNeg = i := nI_clamp (by omega)
  refine am_ci rfl rfl rfl (sg6_comes_0 (has_t hn hI.2.1.2.2.2.2.1 hi (z10' (c4_grow hσ hI.2.1 (fun m1 s1 b1 => ⟨e8, ⟨_, rfl, ?_⟩⟩)))))
  have hI1 := hI.gr s1
  refine am_ci rfl rfl rfl (sg7_comes_0 (isS_t hn hI1.2.2.1.2.2.1 hi (z10' (c7_layLevels hσ hI1.2.2 (fun m2 s2 g2 b2 => ⟨e8, ⟨_, rfl, ?_⟩⟩)))))
  rw [cl, (b1 i hi).1, (b2 i hi).1]
  exact hP _ m2 σ (hI1.ml s2 g2)
theorem pr_shownAt {mem : am_Mem} {σ : mp_S} (hI : Inv mem σ) (v : Int32) : Pr m6_shownAt m7_shownAt [.int v] mem := by
  intro P hP
  have hσ := hI.1
  have hn := hσ.1
  rcases sit v (s_n σ) with ⟨i, hi, rfl⟩ | hv
  case inr => exact am_ci rfl rfl rfl (sg6_shownAt_0 (has_f hn hI.2.1.2.2.2.2.1 hv (z00' ⟨_, rfl, am_ci rfl rfl rfl (sg7_shownAt_0 (isS_f hn hI.2.2.1.2.2.1 hv (z00' ⟨_, rfl, hP _ mem σ hI⟩)))⟩)))
  have e8 : vp_in (nI i) 8 := vp_in_nI (by omega) (by omega)
  have cl : (nI i).toNatClampNeg = i := nI_clamp (by omega)
  refine am_ci rfl rfl rfl (sg6_shownAt_0 (has_t hn hI.2.1.2.2.2.2.1 hi (z10' (c4_grow hσ hI.2.1 (fun m1 s1 b1 => ⟨e8, ⟨_, rfl, ?_⟩⟩)))))
  have hI1 := hI.gr s1
  refine am_ci rfl rfl rfl (sg7_shownAt_0 (isS_t hn hI1.2.2.1.2.2.1 hi (z10' (c7_layLevels hσ hI1.2.2 (fun m2 s2 g2 b2 => ⟨e8, ⟨_, rfl, ?_⟩⟩)))))
  rw [cl, (b1 i hi).2, (b2 i hi).2]
  exact hP _ m2 σ (hI1.ml s2 g2)
theorem pr_shown {mem : am_Mem} {σ : mp_S} (hI : Inv mem σ) (v : Int32) : Pr m6_shown m7_shown [.int v] mem := by
  intro P hP
  have hσ := hI.1
  have hn := hσ.1
  by_cases hv : 0 ≤ v.toInt ∧ v.toInt ≤ 5
  case neg => exact am_ci rfl rfl rfl (sg6_shown_0 (isIn_f hv (z00' ⟨_, rfl, am_ci rfl rfl rfl (sg7_shown_0 (in_f hv (z00' ⟨_, rfl, hP _ mem σ hI⟩)))⟩)))
  refine am_ci rfl rfl rfl (sg6_shown_0 (isIn_t hv.1 hv.2 (z10' (c4_grow hσ hI.2.1 (fun m1 s1 b1 => ?_)))))
  have hI1 := hI.gr s1
  have l6 : ∀ (r i : Nat), i + r = s_n σ → am_J m6_shown 20 23 [.ref 0, .int v, .int (nI (sumN (fun i => if iz ((lvl σ 6).1 i) = -9 then 0 else if v < iz ((lvl σ 6).1 i) then 0 else 1) i)), .int (nI i)] [] m1 (fun r mem' => ∃ x, r = some (.int x) ∧ am_Ci m7_shown 20 [.ref 30, .int v] mem' (fun r2 mem2 => P x r2 mem2)) := by
    intro r
    induction r with
    | zero =>
      intro i hi
      have : i = s_n σ := by omega
      subst this
      refine sg6_shown_23 ⟨fun _ => ⟨_, rfl, ?_⟩, fun q => absurd (by rw [hI1.2.1.2.2.2.2.1]; exact Int32.le_refl _) q⟩
      refine am_ci rfl rfl rfl (sg7_shown_0 (in_t hv.1 hv.2 (z10' (c7_layLevels hσ hI1.2.2 (fun m2 s2 g2 b2 => ?_)))))
      have hI2 := hI1.ml s2 g2
      have l7 : ∀ (r i : Nat), i + r = s_n σ → am_J m7_shown 20 23 [.ref 30, .int v, .int (nI (sumN (fun i => if iz ((lvl σ 6).1 i) = -9 then 0 else if v < iz ((lvl σ 6).1 i) then 0 else 1) i)), .int (nI i)] [] m2 (fun r mem' => ∃ x, r = some (.int x) ∧ P (nI (sumN (fun i => if iz ((lvl σ 6).1 i) = -9 then 0 else if v < iz ((lvl σ 6).1 i) then 0 else 1) (s_n σ))) x mem') := by
        intro r
        induction r with
        | zero =>
          intro i hi
          have : i = s_n σ := by omega
          subst this
          exact sg7_shown_23 ⟨fun _ => ⟨_, rfl, hP _ m2 σ hI2⟩, fun q => absurd (by rw [hI2.2.2.1.2.2.1]; exact Int32.le_refl _) q⟩
        | succ r ih =>
          intro i hi
          have nxt := ih (i + 1) (by omega)
          have e8 : vp_in (nI i) 8 := vp_in_nI (by omega) (by omega)
          refine sg7_shown_23 ⟨fun q => absurd q (by rw [hI2.2.2.1.2.2.1, nI_leI (by omega) (by omega)]; omega), fun _ => ⟨e8, ?_⟩⟩
          rw [nI_clamp (by omega), (b2 i (by omega)).1]
          refine ⟨fun q => sg7_shown_57 (sg7_shown_58 ?_), fun q => ⟨e8, fun q1 => sg7_shown_57 (sg7_shown_58 ?_), fun q1 => sg7_shown_58 ?_⟩⟩
          · simp only [sumN, if_pos q, Nat.add_zero] at nxt
            rw [nI_1, Int32.add_zero]; exact nxt
          · simp only [sumN, if_neg q, if_pos q1, Nat.add_zero] at nxt
            rw [nI_1, Int32.add_zero]; exact nxt
          · simp only [sumN, if_neg q, if_neg q1] at nxt
            rw [nI_1, nI_1]; exact nxt
      exact l7 (s_n σ) 0 (by omega)
    | succ r ih =>
      intro i hi
      have nxt := ih (i + 1) (by omega)
      have e8 : vp_in (nI i) 8 := vp_in_nI (by omega) (by omega)
      refine sg6_shown_23 ⟨fun q => absurd q (by rw [hI1.2.1.2.2.2.2.1, nI_leI (by omega) (by omega)]; omega), fun _ => ⟨e8, ?_⟩⟩
      rw [nI_clamp (by omega), (b1 i (by omega)).1]
      refine ⟨fun q => sg6_shown_64 ?_, fun q => ⟨e8, fun q1 => sg6_shown_64 ?_, fun q1 => sg6_shown_64 ?_⟩⟩
      · simp only [sumN, if_pos q, Nat.add_zero] at nxt
        rw [nI_1]; exact nxt
      · simp only [sumN, if_neg q, if_pos q1, Nat.add_zero] at nxt
        rw [nI_1]; exact nxt
      · simp only [sumN, if_neg q, if_neg q1] at nxt
        rw [nI_1, nI_1]; exact nxt
  exact l6 (s_n σ) 0 (by omega)
/-! AT THE EDGE -/
theorem isl_len {n : Nat} {set : Int32} (h : isl n set = true) : (mbl n set).length ≤ 6 := by
  unfold isl at h
  rw [Bool.and_eq_true, decide_eq_true_eq, decide_eq_true_eq] at h
  exact h.2
section
variable {d : Nat} {mem : am_Mem} {P : Int32 → am_Mem → Prop}
theorem set6_t {n : Nat} {set : Int32} (hn : n ≤ 8) (hN : mem 1 4 = nI n) (hs : isl n set = true) (h : P 1 mem) : am_Ci m1_isSetForLines (d + 1) [.ref 1, .int set] mem P := c1_isSetForLines hn hN (by rw [hs]; exact h)
theorem set6_f {n : Nat} {set : Int32} (hn : n ≤ 8) (hN : mem 1 4 = nI n) (hs : ¬ isl n set = true) (h : P 0 mem) : am_Ci m1_isSetForLines (d + 1) [.ref 1, .int set] mem P := c1_isSetForLines hn hN (by rw [Bool.eq_false_iff.mpr hs]; exact h)
theorem set7_t {n : Nat} {set : Int32} (hn : n ≤ 8) (hN : mem 30 2 = nI n) (hs : isl n set = true) (h : P 1 mem) : am_Ci m7_isSet (d + 1) [.ref 30, .int set] mem P := c7_isSet hn hN (by rw [hs]; exact h)
theorem set7_f {n : Nat} {set : Int32} (hn : n ≤ 8) (hN : mem 30 2 = nI n) (hs : ¬ isl n set = true) (h : P 0 mem) : am_Ci m7_isSet (d + 1) [.ref 30, .int set] mem P := c7_isSet hn hN (by rw [Bool.eq_false_iff.mpr hs]; exact h)
end
/-- there always is a best deal -/
theorem dl_some {σ : mp_S} {mb : Nat → Nat} {k : Nat} : ∀ {r j : Nat} {pl : Nat → Nat} {b : Dl}, b ≠ none → dl σ mb k r j pl b ≠ none := by
  intro r
  induction r with
  | zero =>
    intro j pl b hb
    simp only [dl]
    by_cases h : prm k pl
    · rw [leafD_pos h]
      unfold updD
      cases b with
      | none => exact absurd rfl hb
      | some q => simp only; split <;> simp
    · rw [leafD_neg h]; exact hb
  | succ r ih =>
    intro j pl b hb
    simp only [dl]
    exact tlB_ok (I := fun b => b ≠ none) (fun p x _ _ hx => ih hx) hb
theorem tlB_hit {β : Type} {I : β → Prop} {f : Nat → β → β} (hk : ∀ p x, I x → I (f p x)) : ∀ (u p0 : Nat) (x : β) (q : Nat), p0 ≤ q → q < p0 + u → (∀ x, I (f q x)) → I (tlB f u p0 x) := by
  intro u
  induction u with
  | zero => intro p0 x q h1 h2; omega
  | succ u ih =>
    intro p0 x q h1 h2 hq
    simp only [tlB]
    by_cases he : q = p0
    · subst he
      exact tlB_ok (I := I) (fun p x _ _ hx => hk p x hx) (hq x)
    · exact ih (p0 + 1) _ q (by omega) (by omega) hq
theorem dl_id {σ : mp_S} {mb : Nat → Nat} {k : Nat} : ∀ {r j : Nat} {pl : Nat → Nat} {b : Dl}, j + r = k → (∀ i, i < j → pl i = i) → dl σ mb k r j pl b ≠ none := by
  intro r
  induction r with
  | zero =>
    intro j pl b hj hp
    simp only [dl]
    rw [leafD_pos (fun p hpk => ⟨p, hpk, hp p (by omega)⟩)]
    unfold updD
    cases b with
    | none => simp
    | some q => simp only; split <;> simp
  | succ r ih =>
    intro j pl b hj hp
    simp only [dl]
    refine tlB_hit (I := fun b => b ≠ none) (fun p x hx => dl_some hx) k 0 b j (by omega) (by omega) (fun x => ih (by omega) (fun i hi => ?_))
    unfold rs
    split
    · omega
    · exact hp i (by omega)
theorem Bdl_some (σ : mp_S) (set : Int32) : ∃ q, Bdl σ set = some q := by
  have : Bdl σ set ≠ none := dl_id (by omega) (fun i hi => absurd hi (by omega))
  cases h : Bdl σ set with
  | none => exact absurd h this
  | some q => exact ⟨q, rfl⟩
theorem pr_crosses {mem : am_Mem} {σ : mp_S} (hI : Inv mem σ) (v : Int32) : Pr m6_crosses m7_crosses [.int v] mem := by
  intro P hP
  have hσ := hI.1
  have hn := hσ.1
  by_cases hs : isl (s_n σ) v = true
  case neg => exact am_ci rfl rfl rfl (sg6_crosses_0 (set6_f hn hI.2.1.2.2.2.2.1 hs (z00' ⟨_, rfl, am_ci rfl rfl rfl (sg7_crosses_0 (set7_f hn hI.2.2.1.2.2.1 hs (z00' ⟨_, rfl, hP _ mem σ hI⟩)))⟩)))
  obtain ⟨q, hq⟩ := Bdl_some σ v
  refine am_ci rfl rfl rfl (sg6_crosses_0 (set6_t hn hI.2.1.2.2.2.2.1 hs (z10' (c2_deal hσ hI.2.1 (isl_len hs) (fun m1 s1 a1 b1 => ⟨_, rfl, ?_⟩)))))
  have hI1 : Inv m1 σ := hI.c (fun a ha => s1 a (by omega))
  refine am_ci rfl rfl rfl (sg7_crosses_0 (set7_t hn hI1.2.2.1.2.2.1 hs (z10' (c7_layDeal hσ hI1.2.2 (isl_len hs) (fun m2 s2 a2 b2 => ⟨_, rfl, ?_⟩)))))
  rw [hq] at b1 b2
  rw [b1.1, b2.1]
  exact hP _ m2 σ (hI1.m s2)
theorem pr_length {mem : am_Mem} {σ : mp_S} (hI : Inv mem σ) (v : Int32) : Pr m6_length m7_length [.int v] mem := by
  intro P hP
  have hσ := hI.1
  have hn := hσ.1
  by_cases hs : isl (s_n σ) v = true
  case neg => exact am_ci rfl rfl rfl (sg6_length_0 (set6_f hn hI.2.1.2.2.2.2.1 hs (z00' ⟨_, rfl, am_ci rfl rfl rfl (sg7_length_0 (set7_f hn hI.2.2.1.2.2.1 hs (z00' ⟨_, rfl, hP _ mem σ hI⟩)))⟩)))
  obtain ⟨q, hq⟩ := Bdl_some σ v
  refine am_ci rfl rfl rfl (sg6_length_0 (set6_t hn hI.2.1.2.2.2.2.1 hs (z10' (c2_deal hσ hI.2.1 (isl_len hs) (fun m1 s1 a1 b1 => ⟨_, rfl, ?_⟩)))))
  have hI1 : Inv m1 σ := hI.c (fun a ha => s1 a (by omega))
  refine am_ci rfl rfl rfl (sg7_length_0 (set7_t hn hI1.2.2.1.2.2.1 hs (z10' (c7_layDeal hσ hI1.2.2 (isl_len hs) (fun m2 s2 a2 b2 => ⟨_, rfl, ?_⟩)))))
  rw [hq] at b1 b2
  rw [b1.2.1, b2.2.1]
  exact hP _ m2 σ (hI1.m s2)
theorem mbl_idx {n : Nat} {set : Int32} {i : Nat} (hi : i < n) (hb : bt set i = true) : ∃ k, k < (mbl n set).length ∧ mbf n set k = i ∧ ∀ j, j < k → mbf n set j ≠ i := by
  have hm : i ∈ mbl n set := mbl_mem.mpr ⟨hi, hb⟩
  have : ∃ k, k < (mbl n set).length ∧ mbf n set k = i := by
    obtain ⟨k, hk, e⟩ := List.getElem_of_mem hm
    exact ⟨k, hk, by unfold mbf; rw [List.getD_eq_getElem?_getD, List.getElem?_eq_getElem hk]; exact e⟩
  obtain ⟨k, hk⟩ := this
  have key : ∀ k, (k < (mbl n set).length ∧ mbf n set k = i) → ∃ k, k < (mbl n set).length ∧ mbf n set k = i ∧ ∀ j, j < k → mbf n set j ≠ i := by
    intro k
    induction k using Nat.strongRecOn with
    | ind k ih =>
      intro hk
      by_cases h : ∃ j, j < k ∧ mbf n set j = i
      · obtain ⟨j, hj, e⟩ := h
        exact ih j hj ⟨by omega, e⟩
      · exact ⟨k, hk.1, hk.2, fun j hj e => h ⟨j, hj, e⟩⟩
  exact key k hk
theorem pr_place {mem : am_Mem} {σ : mp_S} (hI : Inv mem σ) (v w : Int32) : Pr m6_place m7_place [.int v, .int w] mem := by
  intro P hP
  have hσ := hI.1
  have hn := hσ.1
  have hN := hI.2.1.2.2.2.2.1
  have hN7 := hI.2.2.1.2.2.1
  by_cases hs : isl (s_n σ) v = true
  case neg => exact am_ci rfl rfl rfl (sg6_place_0 (set6_f hn hN hs (z00' ⟨_, rfl, am_ci rfl rfl rfl (sg7_place_0 (set7_f hn hN7 hs (z00' ⟨_, rfl, hP _ mem σ hI⟩)))⟩)))
  rcases sit w (s_n σ) with ⟨i, hi, rfl⟩ | hw
  case inr => exact am_ci rfl rfl rfl (sg6_place_0 (set6_t hn hN hs (z10' (has_f hn hN hw (z00 ⟨_, rfl, am_ci rfl rfl rfl (sg7_place_0 (set7_t hn hN7 hs (z10' (isS_f hn hN7 hw (z00 ⟨_, rfl, hP _ mem σ hI⟩)))))⟩)))))
  by_cases hb : bt v i = true
  case neg =>
    refine am_ci rfl rfl rfl (sg6_place_0 (set6_t hn hN hs (z10' (has_t hn hN hi (z10 (c6_hasBit (by omega) ?_))))))
    rw [Bool.eq_false_iff.mpr hb]
    refine z00' ⟨_, rfl, am_ci rfl rfl rfl (sg7_place_0 (set7_t hn hN7 hs (z10' (isS_t hn hN7 hi (z10 ?_)))))⟩
    rw [bit_s v i (by omega), Bool.eq_false_iff.mpr hb]
    exact z00' ⟨_, rfl, hP _ mem σ hI⟩
  have h6 := isl_len hs
  obtain ⟨q, hq⟩ := Bdl_some σ v
  obtain ⟨k, hk, hki, hkn⟩ := mbl_idx hi hb
  refine am_ci rfl rfl rfl (sg6_place_0 (set6_t hn hN hs (z10' (has_t hn hN hi (z10 (c6_hasBit (by omega) ?_))))))
  rw [hb]
  refine z10' (c2_deal hσ hI.2.1 h6 (fun m1 s1 a1 b1 => ?_))
  have hI1 : Inv m1 σ := hI.c (fun a ha => s1 a (by omega))
  rw [hq] at b1
  have mbb : ∀ j, j < (mbl (s_n σ) v).length → mbf (s_n σ) v j < s_n σ := fun j hj => (mbl_mem.mp (getD_mem hj)).1
  have fin7 : am_Ci m7_place 20 [.ref 30, .int v, .int (nI i)] m1 (fun r2 mem2 => P (nI (q.2.2 k)) r2 mem2) := by
    refine am_ci rfl rfl rfl (sg7_place_0 (set7_t hn hI1.2.2.1.2.2.1 hs (z10' (isS_t hn hI1.2.2.1.2.2.1 hi (z10 ?_)))))
    rw [bit_s v i (by omega), hb]
    refine z10' (c7_layDeal hσ hI1.2.2 h6 (fun m2 s2 a2 b2 => ?_))
    rw [hq] at b2
    have l7 : ∀ (r j : Nat), j + r = k → am_J m7_place 20 36 [.ref 30, .null, .int (nI i), .int (nI j)] [] m2 (fun r mem' => ∃ x, r = some (.int x) ∧ P (nI (q.2.2 k)) x mem') := by
      intro r
      induction r with
      | zero =>
        intro j hj
        have : j = k := by omega
        subst this
        have e6 : vp_in (nI j) 6 := vp_in_nI (by omega) (by omega)
        refine sg7_place_36 ⟨e6, fun _ => ⟨e6, ⟨_, rfl, ?_⟩⟩, fun q1 => absurd ?_ q1⟩
        · rw [nI_clamp (by omega), b2.2.2 j hk]
          exact hP _ m2 σ (hI1.m s2)
        · rw [nI_clamp (by omega), a2.2 j hk, hki]
      | succ r ih =>
        intro j hj
        have e6 : vp_in (nI j) 6 := vp_in_nI (by omega) (by omega)
        refine sg7_place_36 ⟨e6, fun q1 => absurd q1 ?_, fun _ => ?_⟩
        · rw [nI_clamp (by omega), a2.2 j (by omega), nI_eq (by have := mbb j (by omega); omega) (by omega)]
          exact hkn j (by omega)
        · rw [nI_1]; exact ih (j + 1) (by omega)
    exact l7 k 0 (by omega)
  have l6 : ∀ (r j : Nat), j + r = k → am_J m2_placeOf 19 2 [.ref 26, .int (nI i), .int (nI j)] [] m1 (fun r mem' => ∃ x, r = some (.int x) ∧ (∃ y, some (Value.int x) = some (.int y) ∧ am_Ci m7_place 20 [.ref 30, .int v, .int (nI i)] mem' (fun r2 mem2 => P y r2 mem2))) := by
    intro r
    induction r with
    | zero =>
      intro j hj
      have : j = k := by omega
      subst this
      have e6 : vp_in (nI j) 6 := vp_in_nI (by omega) (by omega)
      refine sg2_placeOf_2 ⟨fun q1 => absurd q1 (by rw [a1.1, nI_leI (by omega) (by omega)]; omega), fun _ => ⟨e6, fun q1 => absurd ?_ q1, fun _ => ⟨e6, ⟨_, rfl, ⟨_, rfl, ?_⟩⟩⟩⟩⟩
      · rw [nI_clamp (by omega), a1.2 j hk, hki]
      · rw [nI_clamp (by omega), b1.2.2 j hk]; exact fin7
    | succ r ih =>
      intro j hj
      have e6 : vp_in (nI j) 6 := vp_in_nI (by omega) (by omega)
      refine sg2_placeOf_2 ⟨fun q1 => absurd q1 (by rw [a1.1, nI_leI (by omega) (by omega)]; omega), fun _ => ⟨e6, fun _ => ?_, fun q1 => absurd q1 ?_⟩⟩
      · rw [nI_1]; exact ih (j + 1) (by omega)
      · rw [nI_clamp (by omega), a1.2 j (by omega), nI_eq (by have := mbb j (by omega); omega) (by omega)]
        exact hkn j (by omega)
  exact am_ci rfl rfl rfl (sg2_placeOf_0 (l6 k 0 (by omega)))
theorem pr_cross {mem : am_Mem} {σ : mp_S} (hI : Inv mem σ) (v w x y : Int32) : Pr m6_cross m7_cross [.int v, .int w, .int x, .int y] mem := by
  have hI0 := hI
  obtain ⟨hσ, hC, hM⟩ := hI
  have hn := hσ.1
  have hH := hσ.2.2.1
  intro P hP
  have out : ∀ x, P x x mem := fun x => hP x mem σ hI0
  have hN := hC.2.2.2.2.1
  have hN7 := hM.1.2.2.1
  have eH : (iz (s_H σ)).toInt64.toInt = s_H σ := izl (by omega) (by omega)
  have eH6 : (iz (s_H σ)).toInt = s_H σ := iz_toInt (by omega) (by omega)
  rcases sit v (s_n σ) with ⟨i, hi, rfl⟩ | hv
  case inr => exact am_ci rfl rfl rfl (sg6_cross_0 (has_f hn hN hv (z00 ⟨_, rfl, am_ci rfl rfl rfl (sg7_cross_0 (isS_f hn hN7 hv (z00 ⟨_, rfl, out _⟩)))⟩)))
  rcases sit x (s_n σ) with ⟨j, hj, rfl⟩ | hv
  case inr => exact am_ci rfl rfl rfl (sg6_cross_0 (has_t hn hN hi (z10 (has_f hn hN hv (z00' ⟨_, rfl, am_ci rfl rfl rfl (sg7_cross_0 (isS_t hn hN7 hi (z10 (isS_f hn hN7 hv (z00' ⟨_, rfl, out _⟩)))))⟩)))))
  refine am_ci rfl rfl rfl (sg6_cross_0 (has_t hn hN hi (z10 (has_t hn hN hj (z10' ?_)))))
  rw [hC.2.1]
  have mod : ∀ {a : Int32}, (∀ Q : Option Value → am_Mem → Prop, (∀ b, b = a → Q (some (.int b)) mem) → am_Ci m7_in 19 [.long w.toInt64, .long 0, .long (iz (s_H σ)).toInt64] mem (fun r_3 mem_3 => (r_3 = 0 → Q (some (.int (-2))) mem_3) ∧ (¬ r_3 = 0 → am_Ci m7_in 19 [.long y.toInt64, .long 0, .long ((mem_3 30 1).toInt64)] mem_3 (fun r_4 mem_4 => (¬ r_4 = 0 → (¬ nI i = nI j → am_Ci m7_lineCrosses 19 [.ref 30, .int (nI i), .int w, .int (nI j), .int y] mem_4 (fun r_5 mem_5 => (r_5 = 0 → Q (some (.int 0)) mem_5) ∧ (¬ r_5 = 0 → Q (some (.int 1)) mem_5))) ∧ (nI i = nI j → Q (some (.int (-3))) mem_4)) ∧ (r_4 = 0 → Q (some (.int (-2))) mem_4))))) → am_Ci m7_cross 20 [.ref 30, .int (nI i), .int w, .int (nI j), .int y] mem (fun r2 mem2 => P a r2 mem2) := by
    intro a ha
    refine am_ci rfl rfl rfl (sg7_cross_0 (isS_t hn hN7 hi (z10 (isS_t hn hN7 hj (z10' ?_)))))
    rw [hM.1.2.1]
    exact ha (fun r mem' => ∃ b, r = some (.int b) ∧ P a b mem') (fun b hb => ⟨b, rfl, by rw [hb]; exact out a⟩)
  by_cases hw : 0 ≤ w.toInt ∧ w.toInt ≤ s_H σ
  case neg => exact isIn_f (by rw [eH6]; exact hw) (z00 ⟨_, rfl, mod (fun Q hQ => in_f (by rw [eH]; exact hw) (z00 (hQ _ rfl)))⟩)
  refine isIn_t hw.1 (by rw [eH6]; exact hw.2) (z10 ?_)
  rw [hC.2.1]
  by_cases hy : 0 ≤ y.toInt ∧ y.toInt ≤ s_H σ
  case neg => exact isIn_f (by rw [eH6]; exact hy) (z00' ⟨_, rfl, mod (fun Q hQ => in_t hw.1 (by rw [eH]; exact hw.2) (z10 (by rw [hM.1.2.1]; exact in_f (by rw [eH]; exact hy) (z00' (hQ _ rfl)))))⟩)
  refine isIn_t hy.1 (by rw [eH6]; exact hy.2) (z10' ⟨fun hne => ?_, fun heq => ⟨_, rfl, mod (fun Q hQ => in_t hw.1 (by rw [eH]; exact hw.2) (z10 (by rw [hM.1.2.1]; exact in_t hy.1 (by rw [eH]; exact hy.2) (z10' ⟨fun q => absurd heq q, fun _ => hQ _ rfl⟩))))⟩⟩)
  have ew : w = iz w.toInt := (iz_self w).symm
  have ey : y = iz y.toInt := (iz_self y).symm
  have key : am_Ci m2_doCross 19 [.ref 26, .int (nI i), .int (iz w.toInt), .int (nI j), .int (iz y.toInt)] mem (fun r_5 mem_5 => am_Ci m6_toInt 19 [.int r_5] mem_5 (fun r_6 mem_6 => ∃ x, some (Value.int r_6) = some (.int x) ∧ am_Ci m7_cross 20 [.ref 30, .int (nI i), .int w, .int (nI j), .int y] mem_6 (fun r2 mem2 => P x r2 mem2))) := by
    refine c2_doCross hσ hC.ce hi hj ⟨hw.1, by omega⟩ ⟨hy.1, by omega⟩ (c6_toInt ⟨_, rfl, mod (fun Q hQ => ?_)⟩)
    refine in_t hw.1 (by rw [eH]; exact hw.2) (z10 ?_)
    rw [hM.1.2.1]
    refine in_t hy.1 (by rw [eH]; exact hy.2) (z10' ⟨fun _ => ?_, fun q => absurd q hne⟩)
    have := c7_lineCrosses (d := 17) (P := fun r_5 mem_5 => (r_5 = 0 → Q (some (.int 0)) mem_5) ∧ (¬ r_5 = 0 → Q (some (.int 1)) mem_5)) hσ hM hi hj (h := w.toInt) (g := y.toInt) ⟨hw.1, by omega⟩ ⟨hy.1, by omega⟩ (bi_ite (fun q => hQ _ (by rw [q]; rfl)) (fun q => hQ _ (by rw [q]; rfl)))
    rw [iz_self, iz_self] at this
    exact this
  rw [iz_self, iz_self] at key
  exact key
