theorem all_succ (p : Nat → Bool) (o : Nat) : (List.range (o + 1)).all p = ((List.range o).all p && p o) := by simp [List.range_succ, List.all_append]
theorem all_mono {p : Nat → Bool} {o n : Nat} (h : o ≤ n) (hf : (List.range o).all p = false) : (List.range n).all p = false := by
  rw [Bool.eq_false_iff] at *
  intro q
  apply hf
  rw [List.all_eq_true] at *
  intro x hx
  exact q x (List.mem_range.mpr (by have := List.mem_range.mp hx; omega))
theorem isFree_loop {D : Nat} {Q : Option Value → am_Mem → Prop} {mem : am_Mem} {σ : mp_S} {z : Int} {aw : Int32} {i c : Nat} (hσ : s_ok σ) (hz1 : 1 ≤ z) (hz2 : z ≤ 6) (hM : Mo mem σ z aw) (hi : i < s_n σ) (hc : c < 4)
    (k : Q (some (.int (bi (g_free σ z (bt aw) i c)))) mem) :
    ∀ (r o : Nat), o + r = s_n σ → am_J m7_isFree (D + 1) 105 [.ref 30, .int (nI i), .null, .int (iz (g_l σ z i c)), .int (iz (g_b σ z i c)), .int (iz (g_l σ z i c + g_bw σ i)), .int (iz (g_b σ z i c + g_bh σ i)), .int (bi (g_in σ z i c && (List.range o).all (fun o => bt aw o || !g_cov σ z i c o))), .int (nI o), .null] [] mem Q := by
  have hn := hσ.1
  obtain ⟨r1, r2, r3, r4, r5, r6⟩ := g_rng hσ hz1 hz2 hi c
  intro r
  induction r with
  | zero =>
    intro o ho
    have : o = s_n σ := by omega
    subst this
    refine sg7_isFree_105 ⟨fun _ => ⟨bi_01 _, k⟩, fun q => absurd ?_ q⟩
    rw [hM.1.2.2.1]; exact Int32.le_refl _
  | succ r ih =>
    intro o ho
    have e2 : vp_in (nI o) 8 := vp_in_nI (by omega) (by omega)
    have c2 : (nI o).toNatClampNeg = o := nI_clamp (by omega)
    obtain ⟨t1, t2, t3, t4, t5, t6⟩ := g_rng hσ hz1 hz2 (i := o) (by omega) 0
    obtain ⟨m1, m2, -⟩ := hM.2 o (by omega)
    have ih' := ih (o + 1) (by omega)
    rw [all_succ] at ih'
    refine sg7_isFree_105 ⟨fun q => absurd q ?_, fun _ => ⟨fun q => ⟨bi_01 _, ?_⟩, fun q => ?_⟩⟩
    · rw [hM.1.2.2.1, nI_leI (by omega) (by omega)]; omega
    · rw [bi_0] at q
      have : g_free σ z (bt aw) i c = false := by
        unfold g_free
        rcases Bool.and_eq_false_iff.mp q with q | q
        · rw [q]; rfl
        · rw [all_mono (by omega) q]; simp
      rw [q]
      rw [this] at k
      exact k
    · rw [bi_n0] at q
      obtain ⟨qa, qb⟩ := (Bool.and_eq_true _ _).mp q
      have k211 : ∀ b : Bool, (bt aw o || !g_cov σ z i c o) = b → am_J m7_isFree (D + 1) 211 [.ref 30, .int (nI i), .null, .int (iz (g_l σ z i c)), .int (iz (g_b σ z i c)), .int (iz (g_l σ z i c + g_bw σ i)), .int (iz (g_b σ z i c + g_bh σ i)), .null, .int (nI o), .null] [.int (bi b)] mem Q := by
        intro b hb
        refine sg7_isFree_211 ?_
        rw [nI_1]
        rw [qa, qb, hb] at ih'
        simpa using ih'
      have k206 : (bt aw o || !g_cov σ z i c o) = true → am_J m7_isFree (D + 1) 206 [.ref 30, .int (nI i), .null, .int (iz (g_l σ z i c)), .int (iz (g_b σ z i c)), .int (iz (g_l σ z i c + g_bw σ i)), .int (iz (g_b σ z i c + g_bh σ i)), .null, .int (nI o), .null] [] mem Q := fun hb => sg7_isFree_206 (k211 true hb)
      have k142 : ∀ b : Bool, (b = false → (bt aw o || !g_cov σ z i c o) = true) → (b = true → bt aw o = false) → am_J m7_isFree (D + 1) 142 [.ref 30, .int (nI i), .null, .int (iz (g_l σ z i c)), .int (iz (g_b σ z i c)), .int (iz (g_l σ z i c + g_bw σ i)), .int (iz (g_b σ z i c + g_bh σ i)), .null, .int (nI o), .null] [.int (bi b)] mem Q := by
        intro b hb1 hb2
        refine sg7_isFree_142 ⟨fun q => k206 (hb1 (bi_0.mp q)), fun q => ⟨e2, ?_⟩⟩
        have hba := hb2 (bi_n0.mp q)
        rw [c2, m1, hM.1.2.2.2.2.2.1, iz_mul, show (1 : Int32) = iz 1 from rfl, iz_add, iz_sub, iz_add, iz_sub]
        refine c7_in ?_
        rw [iz_long (by omega) (by omega), iz_long (by omega) (by omega), iz_long (by omega) (by omega)]
        refine ⟨fun q1 => k206 ?_, fun q1 => ⟨e2, ?_⟩⟩
        · rw [bi_0, decide_eq_false_iff_not] at q1
          have : g_cov σ z i c o = false := decide_eq_false (by omega)
          rw [this]; simp
        · rw [bi_n0, decide_eq_true_eq] at q1
          rw [m2, hM.1.2.2.2.2.2.1, iz_mul]
          refine c7_in ?_
          rw [iz_long (by omega) (by omega), iz_long (by omega) (by omega), iz_long (by omega) (by omega)]
          refine ⟨fun q2 => ?_, fun q2 => k206 ?_⟩
          · rw [bi_n0, decide_eq_true_eq] at q2
            have : g_cov σ z i c o = true := decide_eq_true (by omega)
            exact k211 false (by rw [this, hba]; rfl)
          · rw [bi_0, decide_eq_false_iff_not] at q2
            have : g_cov σ z i c o = false := decide_eq_false (by omega)
            rw [this]; simp
      rw [hM.1.2.2.2.2.2.2, bit_s aw o (by omega)]
      refine ⟨fun q1 => sg7_isFree_141 (k142 false (fun _ => ?_) (fun w => absurd w (by decide))), fun q1 => ⟨fun q2 => sg7_isFree_141 (k142 false (fun _ => ?_) (fun w => absurd w (by decide))), fun q2 => k142 true (fun w => absurd w (by decide)) (fun _ => bi_0.mp q2)⟩⟩
      · have : o = i := (nI_eq (by omega) (by omega)).mp q1
        subst this
        rw [g_cov_self hσ hi]; simp
      · rw [bi_n0] at q2
        rw [q2]; rfl
theorem c7_isFree {d : Nat} {mem : am_Mem} {P : Int32 → am_Mem → Prop} {σ : mp_S} {z : Int} {aw : Int32} {i c : Nat} (hσ : s_ok σ) (hz1 : 1 ≤ z) (hz2 : z ≤ 6) (hM : Mo mem σ z aw) (hi : i < s_n σ) (hc : c < 4)
    (h : P (bi (g_free σ z (bt aw) i c)) mem) : am_Ci m7_isFree (d + 2) [.ref 30, .int (nI i), .int (nI c)] mem P := by
  have hn := hσ.1
  have e1 : vp_in (nI i) 8 := vp_in_nI (by omega) (by omega)
  have c1 : (nI i).toNatClampNeg = i := nI_clamp (by omega)
  obtain ⟨r1, r2, r3, r4, r5, r6⟩ := g_rng hσ hz1 hz2 hi c
  obtain ⟨rW, rH⟩ := g_WH hσ hz1 hz2
  obtain ⟨-, -, m3, m4, -, -, mA⟩ := hM.2 i hi
  obtain ⟨-, -, hw, hh, -⟩ := hσ.2.2.2.2.2 i hi
  have hz := hσ.2.2.2.1
  have hZ := hM.1.2.2.2.1
  refine am_ci rfl rfl rfl (sg7_isFree_0 (c7_left hσ hM hi hc (c7_low hσ hM hi hc ⟨e1, ?_⟩)))
  rw [c1, m3]
  refine c7_boxed hz.1 hz.2 hw.1 hw.2 hZ ⟨e1, ?_⟩
  rw [m4]
  refine c7_boxed hz.1 hz.2 hh.1 (by omega) hZ ⟨e1, ?_⟩
  rw [hM.1.1, hM.1.2.1, hM.1.2.2.2.2.2.1, iz_mul, iz_mul, iz_add, iz_add, bit_s _ c (by omega), mA c hc, show (0 : Int32) = iz 0 from rfl]
  have q1 : iz (s_W σ * z) < iz (g_l σ z i c + bxd (s_z σ) (s_wd σ i)) ↔ s_W σ * z < g_l σ z i c + g_bw σ i := iz_lt (by omega) (by omega) (by unfold g_bw at *; omega) (by unfold g_bw at *; omega)
  have q2 : iz (s_H σ * z) < iz (g_b σ z i c + bxd (s_z σ) (s_ht σ i)) ↔ s_H σ * z < g_b σ z i c + g_bh σ i := iz_lt (by omega) (by omega) (by unfold g_bh at *; omega) (by unfold g_bh at *; omega)
  rw [q1, q2, iz_lt (by omega) (by omega) (by omega) (by omega), iz_lt (by omega) (by omega) (by omega) (by omega), bi_1]
  have k100 : ∀ b : Bool, g_in σ z i c = b → am_J m7_isFree (d + 2) 100 [.ref 30, .int (nI i), .null, .int (iz (g_l σ z i c)), .int (iz (g_b σ z i c)), .int (iz (g_l σ z i c + bxd (s_z σ) (s_wd σ i))), .int (iz (g_b σ z i c + bxd (s_z σ) (s_ht σ i))), .null, .null, .null] [.int (bi b)] mem (fun r mem' => ∃ x, r = some (.int x) ∧ P x mem') := by
    intro b hb
    refine sg7_isFree_100 ?_
    have := isFree_loop (D := d + 1) hσ hz1 hz2 hM hi hc (Q := fun r mem' => ∃ x, r = some (.int x) ∧ P x mem') (am_eq h rfl) (s_n σ) 0 (by omega)
    rw [hb] at this
    simpa [nI_0, g_bw, g_bh] using this
  have k99 : g_in σ z i c = false → am_J m7_isFree (d + 2) 99 [.ref 30, .int (nI i), .null, .int (iz (g_l σ z i c)), .int (iz (g_b σ z i c)), .int (iz (g_l σ z i c + bxd (s_z σ) (s_wd σ i))), .int (iz (g_b σ z i c + bxd (s_z σ) (s_ht σ i))), .null, .null, .null] [] mem (fun r mem' => ∃ x, r = some (.int x) ∧ P x mem') := fun hb => sg7_isFree_99 (k100 false hb)
  refine ⟨fun q => k99 ?_, fun q => ⟨fun q1 => k99 ?_, fun q1 => ⟨fun q2 => k99 ?_, fun q2 => ⟨fun q3 => k99 ?_, fun q3 => ⟨fun q4 => k99 ?_, fun q4 => k100 true ?_⟩⟩⟩⟩⟩
  · unfold g_in; rw [Bool.eq_false_iff.mpr q]; rfl
  · unfold g_in; rw [decide_eq_false (by omega)]; simp
  · unfold g_in; rw [decide_eq_false (by omega)]; simp
  · unfold g_in; rw [decide_eq_false (by omega)]; simp
  · unfold g_in; rw [decide_eq_false (by omega)]; simp
  · unfold g_in; rw [decide_eq_true (by omega), q]; rfl
