theorem iz_ite (c : Prop) {hd : Decidable c} (a b : Int) : (if c then iz a else iz b) = iz (if c then a else b) := by split <;> rfl
/-- the class's cells that LINES need -/
def Ce (mem : am_Mem) (σ : mp_S) : Prop := mem 1 0 = iz (s_W σ) ∧ mem 1 1 = iz (s_H σ) ∧ mem 1 4 = nI (s_n σ) ∧ ∀ i, i < s_n σ → mem 2 i = iz (s_x σ i) ∧ mem 3 i = iz (s_y σ i)
theorem Ch.ce {mem : am_Mem} {σ : mp_S} (h : Ch mem σ) : Ce mem σ := ⟨h.1, h.2.1, h.2.2.2.2.1, fun i hi => ⟨(h.2.2.2.2.2 i hi).1, (h.2.2.2.2.2 i hi).2.1⟩⟩
theorem Ce.keep {mem mem' : am_Mem} {σ : mp_S} (h : Ce mem σ) (hk : ∀ a, a ≤ 3 → mem' a = mem a) : Ce mem' σ := by
  unfold Ce at *
  rw [hk 1 (by omega), hk 2 (by omega), hk 3 (by omega)]
  exact h
theorem c2_isFirstPartMet {d : Nat} {mem : am_Mem} {P : Int32 → am_Mem → Prop} {σ : mp_S} {a b : Nat} {h g : Int} (hσ : s_ok σ) (hC : Ce mem σ) (ha : a < s_n σ) (hb : b < s_n σ) (hh : 0 ≤ h ∧ h ≤ 400) (hg : 0 ≤ g ∧ g ≤ 400)
    (hp : P (bi (decide (s_x σ b ≤ s_x σ a ∧ ((s_y σ a ≤ g ∧ g ≤ h) ∨ (h ≤ g ∧ g ≤ s_y σ a))))) mem) : am_Ci m2_isFirstPartMet (d + 1) [.ref 26, .int (nI a), .int (iz h), .int (nI b), .int (iz g)] mem P := by
  have hn := hσ.1
  have ea : vp_in (nI a) 8 := vp_in_nI (by omega) (by omega)
  have eb : vp_in (nI b) 8 := vp_in_nI (by omega) (by omega)
  obtain ⟨x1, y1, -⟩ := hσ.2.2.2.2.2 a ha
  obtain ⟨x2, y2, -⟩ := hσ.2.2.2.2.2 b hb
  have hW := hσ.2.1
  have hH := hσ.2.2.1
  refine am_ci rfl rfl rfl (sg2_isFirstPartMet_0 ?_)
  have i2 : iz h < iz (s_y σ a) ↔ h < s_y σ a := iz_lt (by omega) (by omega) (by omega) (by omega)
  have i3 : iz (s_y σ a) < iz h ↔ s_y σ a < h := iz_lt (by omega) (by omega) (by omega) (by omega)
  rw [nI_clamp (by omega), nI_clamp (by omega), (hC.2.2.2 a ha).1, (hC.2.2.2 a ha).2, (hC.2.2.2 b hb).1, iz_ite, iz_ite]
  simp only [i2, i3]
  rw [iz_lt (by omega) (by omega) (by omega) (by omega), iz_lt (by omega) (by omega) (by split <;> omega) (by split <;> omega), iz_lt (by split <;> omega) (by split <;> omega) (by omega) (by omega)]
  refine ⟨eb, ea, fun q => am_eq hp ?_, fun q => ⟨ea, fun q1 => am_eq hp ?_, fun q1 => ⟨ea, fun q2 => am_eq hp ?_, fun q2 => am_eq hp ?_⟩⟩⟩
  · rw [decide_eq_false (by omega)]; rfl
  · rw [decide_eq_false (by split at q1 <;> omega)]; rfl
  · rw [decide_eq_false (by split at q2 <;> omega)]; rfl
  · rw [decide_eq_true (by split at q1 <;> split at q2 <;> omega)]; rfl
theorem c2_doFirstPartsMeet {d : Nat} {mem : am_Mem} {P : Int32 → am_Mem → Prop} {σ : mp_S} {a b : Nat} {h g : Int} (hσ : s_ok σ) (hC : Ce mem σ) (ha : a < s_n σ) (hb : b < s_n σ) (hh : 0 ≤ h ∧ h ≤ 400) (hg : 0 ≤ g ∧ g ≤ 400)
    (hp : P (bi (decide (s_x σ a = s_x σ b ∧ (if h < s_y σ a then h else s_y σ a) ≤ (if s_y σ b < g then g else s_y σ b) ∧ (if g < s_y σ b then g else s_y σ b) ≤ (if s_y σ a < h then h else s_y σ a)))) mem) : am_Ci m2_doFirstPartsMeet (d + 1) [.ref 26, .int (nI a), .int (iz h), .int (nI b), .int (iz g)] mem P := by
  have hn := hσ.1
  have ea : vp_in (nI a) 8 := vp_in_nI (by omega) (by omega)
  have eb : vp_in (nI b) 8 := vp_in_nI (by omega) (by omega)
  obtain ⟨x1, y1, -⟩ := hσ.2.2.2.2.2 a ha
  obtain ⟨x2, y2, -⟩ := hσ.2.2.2.2.2 b hb
  have hW := hσ.2.1
  have hH := hσ.2.2.1
  refine am_ci rfl rfl rfl (sg2_doFirstPartsMeet_0 ?_)
  rw [nI_clamp (by omega), nI_clamp (by omega), (hC.2.2.2 a ha).1, (hC.2.2.2 a ha).2, (hC.2.2.2 b hb).1, (hC.2.2.2 b hb).2, iz_ite, iz_ite, iz_ite, iz_ite, iz_eq (by omega) (by omega) (by omega) (by omega)]
  have i1 : iz (s_y σ b) < iz g ↔ s_y σ b < g := iz_lt (by omega) (by omega) (by omega) (by omega)
  have i2 : iz h < iz (s_y σ a) ↔ h < s_y σ a := iz_lt (by omega) (by omega) (by omega) (by omega)
  have i3 : iz (s_y σ a) < iz h ↔ s_y σ a < h := iz_lt (by omega) (by omega) (by omega) (by omega)
  have i4 : iz g < iz (s_y σ b) ↔ g < s_y σ b := iz_lt (by omega) (by omega) (by omega) (by omega)
  simp only [i1, i2, i3, i4]
  have r1 : 0 ≤ (if s_y σ b < g then g else s_y σ b) ∧ (if s_y σ b < g then g else s_y σ b) ≤ 400 := by split <;> omega
  have r2 : 0 ≤ (if h < s_y σ a then h else s_y σ a) ∧ (if h < s_y σ a then h else s_y σ a) ≤ 400 := by split <;> omega
  have r3 : 0 ≤ (if s_y σ a < h then h else s_y σ a) ∧ (if s_y σ a < h then h else s_y σ a) ≤ 400 := by split <;> omega
  have r4 : 0 ≤ (if g < s_y σ b then g else s_y σ b) ∧ (if g < s_y σ b then g else s_y σ b) ≤ 400 := by split <;> omega
  generalize (if s_y σ b < g then g else s_y σ b) = A at *
  generalize (if h < s_y σ a then h else s_y σ a) = B at *
  generalize (if s_y σ a < h then h else s_y σ a) = C at *
  generalize (if g < s_y σ b then g else s_y σ b) = E at *
  rw [iz_lt (by omega) (by omega) (by omega) (by omega), iz_lt (by omega) (by omega) (by omega) (by omega)]
  refine ⟨ea, eb, fun q => am_eq hp ?_, fun q => ⟨ea, eb, fun q1 => am_eq hp ?_, fun q1 => ⟨eb, ea, fun q2 => am_eq hp ?_, fun q2 => am_eq hp ?_⟩⟩⟩
  · rw [decide_eq_false (by omega)]; rfl
  · rw [decide_eq_false (by omega)]; rfl
  · rw [decide_eq_false (by omega)]; rfl
  · rw [decide_eq_true (by omega)]; rfl
theorem c2_doCross {d : Nat} {mem : am_Mem} {P : Int32 → am_Mem → Prop} {σ : mp_S} {a b : Nat} {h g : Int} (hσ : s_ok σ) (hC : Ce mem σ) (ha : a < s_n σ) (hb : b < s_n σ) (hh : 0 ≤ h ∧ h ≤ 400) (hg : 0 ≤ g ∧ g ≤ 400)
    (hp : P (bi (lc σ a h b g)) mem) : am_Ci m2_doCross (d + 2) [.ref 26, .int (nI a), .int (iz h), .int (nI b), .int (iz g)] mem P := by
  refine am_ci rfl rfl rfl (sg2_doCross_0 ?_)
  rw [iz_eq (by omega) (by omega) (by omega) (by omega)]
  refine ⟨fun q => am_eq hp ?_, fun q => c2_isFirstPartMet (d := d) hσ hC ha hb hh hg ⟨fun q1 => am_eq hp ?_, fun q1 => c2_isFirstPartMet (d := d) hσ hC hb ha hg hh ⟨fun q2 => am_eq hp ?_, fun q2 => c2_doFirstPartsMeet (d := d) hσ hC ha hb hh hg ⟨fun q3 => am_eq hp ?_, fun q3 => am_eq hp ?_⟩⟩⟩⟩
  · have : lc σ a h b g = true := decide_eq_true (Or.inl q)
    rw [this]; rfl
  · rw [bi_n0, decide_eq_true_eq] at q1
    have : lc σ a h b g = true := decide_eq_true (by omega)
    rw [this]; rfl
  · rw [bi_n0, decide_eq_true_eq] at q2
    have : lc σ a h b g = true := decide_eq_true (by omega)
    rw [this]; rfl
  · rw [bi_0, decide_eq_false_iff_not] at q1 q2 q3
    have : lc σ a h b g = false := by
      apply decide_eq_false
      by_cases hx : s_x σ a = s_x σ b
      · have q3' : ¬ ((if h < s_y σ a then h else s_y σ a) ≤ (if s_y σ b < g then g else s_y σ b) ∧ (if g < s_y σ b then g else s_y σ b) ≤ (if s_y σ a < h then h else s_y σ a)) := fun w => q3 ⟨hx, w⟩
        revert q3'
        repeat' split
        all_goals omega
      · omega
    rw [this]; rfl
  · rw [bi_n0, decide_eq_true_eq] at q3
    rw [bi_0, decide_eq_false_iff_not] at q1 q2
    have : lc σ a h b g = true := by
      apply decide_eq_true
      obtain ⟨q4, q5, q6⟩ := q3
      revert q5 q6
      repeat' split
      all_goals omega
    rw [this]; rfl
/-- the class's LINES: k of them, of SITES mb -/
def El (mem : am_Mem) (k : Nat) (mb : Nat → Nat) : Prop := mem 26 1 = nI k ∧ ∀ i, i < k → mem 27 i = nI (mb i)
theorem hgt_rng {σ : mp_S} (hσ : s_ok σ) {k p : Nat} (hk : 0 < k) (hp : p < k) : 0 ≤ hgt σ k p ∧ hgt σ k p ≤ s_H σ := by
  have hH := hσ.2.2.1
  unfold hgt
  have h1 : 0 ≤ (p : Int) * s_H σ := Int.mul_nonneg (by omega) (by omega)
  refine ⟨Int.ediv_nonneg h1 (by omega), ?_⟩
  have h2 : (p : Int) * s_H σ ≤ (k : Int) * s_H σ := Int.mul_le_mul_of_nonneg_right (by omega) (by omega)
  have h3 : (p : Int) * s_H σ / (k : Int) ≤ (k : Int) * s_H σ / (k : Int) := Int.ediv_le_ediv (by omega) h2
  rw [Int.mul_ediv_cancel_left _ (by omega)] at h3
  exact h3
theorem c2_heightOf {d : Nat} {mem : am_Mem} {P : Int32 → am_Mem → Prop} {σ : mp_S} {k j p : Nat} (hσ : s_ok σ) (hC : Ce mem σ) (hk : k ≤ 6) (hj : j < k) (hl : mem 26 1 = nI k) (h28 : mem 28 j = nI p) (hp : p < k) (h : P (iz (hgt σ k p)) mem) : am_Ci m2_heightOf d [.ref 26, .int (nI j)] mem P := by
  have hH := hσ.2.2.1
  refine am_ci rfl rfl rfl (sg2_heightOf_0 ?_)
  rw [hl, nI_clamp (by omega), h28, hC.2.1]
  have h1 : 0 ≤ (p : Int) * s_H σ := Int.mul_nonneg (by omega) (by omega)
  have h2 : (p : Int) * s_H σ ≤ 6 * 400 := Int.mul_le_mul (by omega) (by omega) (by omega) (by omega)
  refine ⟨fun q => absurd q (nI_nle (by omega) (by omega)), fun _ => ⟨vp_in_nI (by omega) (by omega), nI_ne0 (by omega) (by omega), am_eq h ?_⟩⟩
  rw [iz_nI, iz_nI, iz_mul, iz_div h1 (by omega) (by omega) (by omega)]
  rfl
theorem c2_crossedBefore {d : Nat} {mem : am_Mem} {P : Int32 → am_Mem → Prop} {σ : mp_S} {k j : Nat} {mb pl : Nat → Nat} (hσ : s_ok σ) (hC : Ce mem σ) (hk : k ≤ 6) (hj : j < k) (hE : El mem k mb) (hmb : ∀ i, i < k → mb i < s_n σ) (h28 : ∀ i, i ≤ j → mem 28 i = nI (pl i)) (hpl : ∀ i, i ≤ j → pl i < k)
    (h : P (iz (cbf σ mb k pl j)) mem) : am_Ci m2_crossedBefore (d + 3) [.ref 26, .int (nI j)] mem P := by
  have hH := hσ.2.2.1
  have ej : vp_in (nI j) 6 := vp_in_nI (by omega) (by omega)
  have loop : ∀ (r i : Nat), i + r = j → am_J m2_crossedBefore (d + 3) 4 [.ref 26, .int (nI j), .int (iz (sumI (fun i => if lc σ (mb j) (hgt σ k (pl j)) (mb i) (hgt σ k (pl i)) = true then 1 else 0) i)), .int (nI i)] [] mem (fun r mem' => ∃ x, r = some (.int x) ∧ P x mem') := by
    intro r
    induction r with
    | zero =>
      intro i hi
      have : i = j := by omega
      subst this
      exact sg2_crossedBefore_4 ⟨fun _ => am_eq h rfl, fun q => absurd (Int32.le_refl _) q⟩
    | succ r ih =>
      intro i hi
      have ei : vp_in (nI i) 6 := vp_in_nI (by omega) (by omega)
      have g1 := hgt_rng hσ (p := pl j) (show 0 < k by omega) (hpl j (by omega))
      have g2 := hgt_rng hσ (p := pl i) (show 0 < k by omega) (hpl i (by omega))
      refine sg2_crossedBefore_4 ⟨fun q => absurd q ?_, fun _ => ⟨ej, c2_heightOf hσ hC hk hj hE.1 (h28 j (by omega)) (hpl j (by omega)) ⟨ei, c2_heightOf hσ hC hk (by omega) hE.1 (h28 i (by omega)) (hpl i (by omega)) ?_⟩⟩⟩
      · rw [nI_leI (by omega) (by omega)]; omega
      · rw [nI_clamp (by omega), nI_clamp (by omega), hE.2 j hj, hE.2 i (by omega)]
        refine c2_doCross (d := d) hσ hC (hmb j hj) (hmb i (by omega)) (by omega) (by omega) (c6_toInt ?_)
        rw [nI_1]
        have ih' := ih (i + 1) (by omega)
        have e : iz (sumI (fun i => if lc σ (mb j) (hgt σ k (pl j)) (mb i) (hgt σ k (pl i)) = true then 1 else 0) i) + bi (lc σ (mb j) (hgt σ k (pl j)) (mb i) (hgt σ k (pl i))) = iz (sumI (fun i => if lc σ (mb j) (hgt σ k (pl j)) (mb i) (hgt σ k (pl i)) = true then 1 else 0) (i + 1)) := by
          simp only [sumI]
          rw [← iz_add]
          congr 1
          cases lc σ (mb j) (hgt σ k (pl j)) (mb i) (hgt σ k (pl i)) <;> rfl
        rw [e]; exact ih'
  exact am_ci rfl rfl rfl (sg2_crossedBefore_0 (loop j 0 (by omega)))
theorem ll_rng {σ : mp_S} (hσ : s_ok σ) {s : Nat} (hs : s < s_n σ) {h : Int} (hh : 0 ≤ h ∧ h ≤ s_H σ) : 0 ≤ ll σ s h ∧ ll σ s h ≤ 800 := by
  obtain ⟨x1, y1, -⟩ := hσ.2.2.2.2.2 s hs
  have hW := hσ.2.1
  have hH := hσ.2.2.1
  unfold ll
  split <;> omega
theorem c2_lengthOf {d : Nat} {mem : am_Mem} {P : Int32 → am_Mem → Prop} {σ : mp_S} {k j : Nat} {mb pl : Nat → Nat} (hσ : s_ok σ) (hC : Ce mem σ) (hk : k ≤ 6) (hj : j < k) (hE : El mem k mb) (hmb : ∀ i, i < k → mb i < s_n σ) (h28 : mem 28 j = nI (pl j)) (hpl : pl j < k)
    (h : P (iz (lnf σ mb k pl j)) mem) : am_Ci m2_lengthOf (d + 1) [.ref 26, .int (nI j)] mem P := by
  have hn := hσ.1
  have g1 := hgt_rng hσ (p := pl j) (show 0 < k by omega) hpl
  obtain ⟨x1, y1, -⟩ := hσ.2.2.2.2.2 (mb j) (hmb j hj)
  have hW := hσ.2.1
  have hH := hσ.2.2.1
  have hm8 := hmb j hj
  refine am_ci rfl rfl rfl (sg2_lengthOf_0 ⟨vp_in_nI (by omega) (by omega), c2_heightOf hσ hC hk hj hE.1 h28 hpl ?_⟩)
  rw [nI_clamp (by omega), hE.2 j hj, nI_clamp (by omega), (hC.2.2.2 _ hm8).1, (hC.2.2.2 _ hm8).2, hC.1]
  refine ⟨vp_in_nI (by omega) (by omega), vp_in_nI (by omega) (by omega), am_eq h ?_⟩
  have i1 : iz 0 ≤ iz (hgt σ k (pl j) - s_y σ (mb j)) ↔ 0 ≤ hgt σ k (pl j) - s_y σ (mb j) := iz_le (by omega) (by omega) (by omega) (by omega)
  rw [iz_sub, show (0 : Int32) = iz 0 from rfl, iz_sub]
  simp only [i1]
  rw [iz_ite, iz_add, iz_sub]
  unfold lnf ll
  congr 1
  split <;> split <;> omega
