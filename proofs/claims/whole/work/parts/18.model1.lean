/-- the reference's cells hold THE MAP, at z times, with the SITES of aw taken away -/
def Mo (mem : am_Mem) (σ : mp_S) (z : Int) (aw : Int32) : Prop := (mem 30 0 = iz (s_W σ) ∧ mem 30 1 = iz (s_H σ) ∧ mem 30 2 = nI (s_n σ) ∧ mem 30 10 = iz (s_z σ) ∧ mem 30 11 = iz (s_g σ) ∧ mem 30 12 = iz z ∧ mem 30 13 = aw) ∧
  ∀ i, i < s_n σ → mem 31 i = iz (s_x σ i) ∧ mem 32 i = iz (s_y σ i) ∧ mem 33 i = iz (s_wd σ i) ∧ mem 34 i = iz (s_ht σ i) ∧ mem 35 i = iz (s_wo σ i) ∧ mem 37 i = iz (s_hd σ i) ∧ ∀ c, c < 4 → bt (mem 36 i) c = s_al σ i c
theorem Mo.keep {mem mem' : am_Mem} {σ : mp_S} {z : Int} {aw : Int32} (h : Mo mem σ z aw) (h0 : ∀ k, k ≤ 2 ∨ (10 ≤ k ∧ k ≤ 13) → mem' 30 k = mem 30 k) (hk : ∀ a, 31 ≤ a → a ≤ 37 → mem' a = mem a) : Mo mem' σ z aw := by
  unfold Mo at *
  rw [h0 0 (by omega), h0 1 (by omega), h0 2 (by omega), h0 10 (by omega), h0 11 (by omega), h0 12 (by omega), h0 13 (by omega), hk 31 (by omega) (by omega), hk 32 (by omega) (by omega), hk 33 (by omega) (by omega), hk 34 (by omega) (by omega), hk 35 (by omega) (by omega), hk 36 (by omega) (by omega), hk 37 (by omega) (by omega)]
  exact h
theorem bit_s (x : Int32) (n : Nat) (hn : n < 32) : ((x >>> (nI n &&& 31)) &&& 1) = bi (bt x n) := by
  apply b_ext
  intro i hi
  rw [b_and, b_sshr n hn x hi]
  have h1 : ∀ i, i < 32 → bt 1 i = decide (i = 0) := by decide +kernel
  rw [h1 i hi]
  by_cases h0 : i = 0
  · subst h0
    simp only [Nat.add_zero, hn, if_true, decide_true, Bool.and_true]
    cases bt x n <;> decide +kernel
  · simp only [h0, decide_false, Bool.and_false]
    cases bt x n
    · exact (b_0 i).symm
    · show false = bt 1 i
      rw [h1 i hi]; simp [h0]
theorem c7_isSite {d : Nat} {mem : am_Mem} {P : Int32 → am_Mem → Prop} {v : Int32} {n : Nat} (hn : n ≤ 8) (hN : mem 30 2 = nI n) (h : P (bi (decide (0 ≤ v.toInt ∧ v.toInt < n))) mem) : am_Ci m7_isSite (d + 1) [.ref 30, .int v] mem P := by
  refine am_ci rfl rfl rfl (sg7_isSite_0 (c7_in ⟨bi_01 _, am_eq h ?_⟩))
  rw [hN, iz_nI, show (1 : Int32) = iz 1 from rfl, iz_sub, iz_long (by omega) (by omega), Int32.toInt_toInt64]
  congr 1
  apply decide_eq_decide.mpr
  show (0 : Int) ≤ _ ∧ _ ↔ _
  omega
theorem c7_isCorner {d : Nat} {mem : am_Mem} {P : Int32 → am_Mem → Prop} {v : Int32} (h : P (bi (decide (0 ≤ v.toInt ∧ v.toInt ≤ 3))) mem) : am_Ci m7_isCorner (d + 1) [.int v] mem P := by
  refine am_ci rfl rfl rfl (sg7_isCorner_0 (c7_in ⟨bi_01 _, am_eq h ?_⟩))
  rw [Int32.toInt_toInt64]
  rfl
theorem c7_boxed {d : Nat} {mem : am_Mem} {P : Int32 → am_Mem → Prop} {sz l : Int} (h1 : 1 ≤ sz) (h2 : sz ≤ 40) (h3 : 1 ≤ l) (h4 : l ≤ 60) (hz : mem 30 10 = iz sz) (h : P (iz (bxd sz l)) mem) : am_Ci m7_boxed d [.ref 30, .int (iz l)] mem P := by
  have h5 : l * sz ≤ 60 * 40 := Int.mul_le_mul h4 h2 (by omega) (by omega)
  have h6 : 0 ≤ l * sz := Int.mul_nonneg (by omega) (by omega)
  refine am_ci rfl rfl rfl (sg7_boxed_0 ?_)
  rw [hz, iz_mul, show (10 : Int32) = iz 10 from rfl, iz_div h6 (by omega) (by omega) (by omega), show (1 : Int32) = iz 1 from rfl, iz_le (by omega) (by omega) (by omega) (by omega)]
  refine ⟨fun q => am_eq h ?_, fun q => am_eq h ?_⟩
  · unfold bxd
    split
    · rfl
    · congr 1; omega
  · unfold bxd
    rw [if_neg (by omega)]
theorem c7_left {d : Nat} {mem : am_Mem} {P : Int32 → am_Mem → Prop} {σ : mp_S} {z : Int} {aw : Int32} {i c : Nat} (hσ : s_ok σ) (hM : Mo mem σ z aw) (hi : i < s_n σ) (hc : c < 4) (h : P (iz (g_l σ z i c)) mem) : am_Ci m7_left (d + 1) [.ref 30, .int (nI i), .int (nI c)] mem P := by
  have hn := hσ.1
  have e8 : vp_in (nI i) 8 := vp_in_nI (by omega) (by omega)
  have ci : (nI i).toNatClampNeg = i := nI_clamp (by omega)
  obtain ⟨m1, m2, m3, m4, -⟩ := hM.2 i hi
  obtain ⟨-, -, hw, hh, -⟩ := hσ.2.2.2.2.2 i hi
  have hz := hσ.2.2.2.1
  refine am_ci rfl rfl rfl (sg7_left_0 ?_)
  have z1 : nI c = 1 ↔ c = 1 := by rw [show (1 : Int32) = nI 1 from rfl, nI_eq (by omega) (by omega)]
  have z2 : nI c = 2 ↔ c = 2 := by rw [show (2 : Int32) = nI 2 from rfl, nI_eq (by omega) (by omega)]
  rw [ci, m1, hM.1.2.2.2.2.2.1, iz_mul, z1, z2]
  have g : c = 1 ∨ c = 2 → am_J m7_left (d + 1) 21 [.ref 30, .int (nI i), .null] [.int (iz (s_x σ i * z))] mem (fun r mem' => ∃ x, r = some (.int x) ∧ P x mem') := by
    intro q
    refine sg7_left_21 ⟨e8, ?_⟩
    rw [ci, m3]
    refine c7_boxed hz.1 hz.2 hw.1 hw.2 hM.1.2.2.2.1 (am_eq h ?_)
    rw [iz_sub]; unfold g_l; rw [if_pos q]; rfl
  refine ⟨e8, fun q => g (Or.inl q), fun q => ⟨fun q1 => am_eq h ?_, fun q1 => g (Or.inr q1)⟩⟩
  unfold g_l; rw [if_neg (by omega)]; simp
theorem c7_low {d : Nat} {mem : am_Mem} {P : Int32 → am_Mem → Prop} {σ : mp_S} {z : Int} {aw : Int32} {i c : Nat} (hσ : s_ok σ) (hM : Mo mem σ z aw) (hi : i < s_n σ) (hc : c < 4) (h : P (iz (g_b σ z i c)) mem) : am_Ci m7_low (d + 1) [.ref 30, .int (nI i), .int (nI c)] mem P := by
  have hn := hσ.1
  have e8 : vp_in (nI i) 8 := vp_in_nI (by omega) (by omega)
  have ci : (nI i).toNatClampNeg = i := nI_clamp (by omega)
  obtain ⟨m1, m2, m3, m4, -⟩ := hM.2 i hi
  obtain ⟨-, -, hw, hh, -⟩ := hσ.2.2.2.2.2 i hi
  have hz := hσ.2.2.2.1
  refine am_ci rfl rfl rfl (sg7_low_0 ?_)
  have z1 : nI c ≤ 1 ↔ c ≤ 1 := by rw [show (1 : Int32) = nI 1 from rfl, nI_leI (by omega) (by omega)]
  rw [ci, m2, m4, hM.1.2.2.2.2.2.1, iz_mul, z1]
  refine ⟨e8, fun q => am_eq h ?_, fun q => ⟨e8, c7_boxed hz.1 hz.2 hh.1 (by omega) hM.1.2.2.2.1 (am_eq h ?_)⟩⟩
  · unfold g_b; rw [if_neg (by omega)]; simp
  · rw [iz_sub]; unfold g_b; rw [if_pos (by omega)]; rfl
theorem c7_clashes {d : Nat} {mem : am_Mem} {P : Int32 → am_Mem → Prop} {σ : mp_S} {z : Int} {aw : Int32} {i c j e : Nat} (hσ : s_ok σ) (hz1 : 1 ≤ z) (hz2 : z ≤ 6) (hM : Mo mem σ z aw) (hi : i < s_n σ) (hc : c < 4) (hj : j < s_n σ) (he : e < 4)
    (h : P (bi (g_clash σ z i c j e)) mem) : am_Ci m7_clashes (d + 2) [.ref 30, .int (nI i), .int (nI c), .int (nI j), .int (nI e)] mem P := by
  have hn := hσ.1
  have hgg := hσ.2.2.2.2.1
  have e1 : vp_in (nI i) 8 := vp_in_nI (by omega) (by omega)
  have c1 : (nI i).toNatClampNeg = i := nI_clamp (by omega)
  have e2 : vp_in (nI j) 8 := vp_in_nI (by omega) (by omega)
  have c2 : (nI j).toNatClampNeg = j := nI_clamp (by omega)
  obtain ⟨r1, r2, r3, r4, r5, r6⟩ := g_rng hσ hz1 hz2 hi c
  obtain ⟨t1, t2, t3, t4, t5, t6⟩ := g_rng hσ hz1 hz2 hj e
  obtain ⟨-, -, m3, m4, -⟩ := hM.2 i hi
  obtain ⟨-, -, n3, n4, -⟩ := hM.2 j hj
  obtain ⟨-, -, hw, hh, -⟩ := hσ.2.2.2.2.2 i hi
  obtain ⟨-, -, iw, ih, -⟩ := hσ.2.2.2.2.2 j hj
  have hz := hσ.2.2.2.1
  have hZ := hM.1.2.2.2.1
  have hG := hM.1.2.2.2.2.1
  have fal : g_clash σ z i c j e = false → ∃ x, (some (Value.int 0) : Option Value) = some (.int x) ∧ P x mem := fun q => am_eq h (by rw [q]; rfl)
  -- both y tests, for a known answer of x
  have k138 : ∀ (a b : Bool), ((a && b) = g_clash σ z i c j e) → am_J m7_clashes (d + 2) 138 [.null, .null, .null, .null, .null, .null, .null, .null, .null, .int (bi a), .null] [.int (bi b)] mem (fun r mem' => ∃ x, r = some (.int x) ∧ P x mem') := by
    intro a b hab
    refine sg7_clashes_138 ⟨fun q => fal ?_, fun q => ⟨fun q1 => fal ?_, fun q1 => am_eq h ?_⟩⟩
    · rw [bi_0] at q; rw [← hab, q]; rfl
    · rw [bi_0] at q1; rw [← hab, q1]; simp
    · rw [bi_n0] at q q1; rw [← hab, q, q1]; rfl
  have k85 : ∀ (a : Bool), (a = decide (g_l σ z i c < g_l σ z j e + g_bw σ j + s_g σ ∧ g_l σ z j e < g_l σ z i c + g_bw σ i + s_g σ)) → am_J m7_clashes (d + 2) 85 [.ref 30, .int (nI i), .null, .int (nI j), .null, .null, .int (iz (g_b σ z i c)), .null, .int (iz (g_b σ z j e)), .null, .null] [.int (bi a)] mem (fun r mem' => ∃ x, r = some (.int x) ∧ P x mem') := by
    intro a ha
    have key : ∀ b : Bool, b = decide (g_b σ z i c < g_b σ z j e + g_bh σ j + s_g σ ∧ g_b σ z j e < g_b σ z i c + g_bh σ i + s_g σ) → (a && b) = g_clash σ z i c j e := by
      intro b hb
      rw [ha, hb]; unfold g_clash
      rw [← Bool.decide_and]
      apply decide_eq_decide.mpr
      constructor
      · rintro ⟨⟨a1, a2⟩, a3, a4⟩; exact ⟨a1, a2, a3, a4⟩
      · rintro ⟨a1, a2, a3, a4⟩; exact ⟨⟨a1, a2⟩, a3, a4⟩
    refine sg7_clashes_85 ⟨e2, ?_⟩
    rw [c1, c2, n4]
    refine c7_boxed hz.1 hz.2 ih.1 (by omega) hZ ?_
    rw [hG, iz_add, iz_add, m4]
    have q0 : iz (g_b σ z j e + bxd (s_z σ) (s_ht σ j) + s_g σ) ≤ iz (g_b σ z i c) ↔ g_b σ z j e + g_bh σ j + s_g σ ≤ g_b σ z i c := iz_le (by unfold g_bh at *; omega) (by unfold g_bh at *; omega) (by omega) (by omega)
    rw [q0]
    refine ⟨fun q => sg7_clashes_137 (k138 a false (key false (decide_eq_false (by omega)).symm)), fun q => ⟨e1, c7_boxed hz.1 hz.2 hh.1 (by omega) hZ ?_⟩⟩
    rw [hG, iz_add, iz_add]
    have q1 : iz (g_b σ z i c + bxd (s_z σ) (s_ht σ i) + s_g σ) ≤ iz (g_b σ z j e) ↔ g_b σ z i c + g_bh σ i + s_g σ ≤ g_b σ z j e := iz_le (by unfold g_bh at *; omega) (by unfold g_bh at *; omega) (by omega) (by omega)
    rw [q1]
    exact ⟨fun q => sg7_clashes_137 (k138 a false (key false (decide_eq_false (by omega)).symm)), fun q2 => k138 a true (key true (decide_eq_true (by omega)).symm)⟩
  refine am_ci rfl rfl rfl (sg7_clashes_0 (c7_left hσ hM hi hc (c7_low hσ hM hi hc (c7_left hσ hM hj he (c7_low hσ hM hj he ⟨e2, ?_⟩)))))
  rw [c1, c2, n3]
  refine c7_boxed hz.1 hz.2 iw.1 iw.2 hZ ?_
  rw [hG, iz_add, iz_add, m3]
  have q0 : iz (g_l σ z j e + bxd (s_z σ) (s_wd σ j) + s_g σ) ≤ iz (g_l σ z i c) ↔ g_l σ z j e + g_bw σ j + s_g σ ≤ g_l σ z i c := iz_le (by unfold g_bw at *; omega) (by unfold g_bw at *; omega) (by omega) (by omega)
  rw [q0]
  refine ⟨fun q => sg7_clashes_84 (k85 false (decide_eq_false (by omega)).symm), fun q => ⟨e1, c7_boxed hz.1 hz.2 hw.1 hw.2 hZ ?_⟩⟩
  rw [hG, iz_add, iz_add]
  have q1 : iz (g_l σ z i c + bxd (s_z σ) (s_wd σ i) + s_g σ) ≤ iz (g_l σ z j e) ↔ g_l σ z i c + g_bw σ i + s_g σ ≤ g_l σ z j e := iz_le (by unfold g_bw at *; omega) (by unfold g_bw at *; omega) (by omega) (by omega)
  rw [q1]
  exact ⟨fun q => sg7_clashes_84 (k85 false (decide_eq_false (by omega)).symm), fun q2 => k85 true (decide_eq_true (by omega)).symm⟩
