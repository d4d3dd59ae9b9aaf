/-- the class's own cells but for SIZE and THE HAND -/
def Cz (mem : am_Mem) (σ : mp_S) : Prop := mem 1 3 = iz (s_g σ) ∧ mem 1 4 = nI (s_n σ) ∧ ∀ i, i < s_n σ → mem 6 i = iz (s_wo σ i) ∧ ∀ c, c < 4 → mem 7 (4 * i + c) = bi (s_al σ i c)
theorem Ch.cz {mem : am_Mem} {σ : mp_S} (h : Ch mem σ) (v : Int) : Cz mem (s_sz σ v) := ⟨h.2.2.2.1, h.2.2.2.2.1, fun i hi => ⟨(h.2.2.2.2.2 i hi).2.2.2.2.1, (h.2.2.2.2.2 i hi).2.2.2.2.2.2⟩⟩
theorem Cz.keep {mem mem' : am_Mem} {σ : mp_S} (h : Cz mem σ) (hk : ∀ a, 1 ≤ a → a ≤ 7 → mem' a = mem a) : Cz mem' σ := by
  unfold Cz at *
  rw [hk 1 (by omega) (by omega), hk 6 (by omega) (by omega), hk 7 (by omega) (by omega)]
  exact h
theorem clashingWith_loop {D : Nat} {Q : Option Value → am_Mem → Prop} {mem : am_Mem} {σ : mp_S} {k : Nat} (hσ : s_ok σ) (hC : Cz mem σ) (hB : Bx mem σ 1 (s_n σ)) (hk : k < 4 * s_n σ)
    (kk : Q (some (.int (bs (pcl σ 1 k) (4 * s_n σ)))) mem) :
    ∀ (r o : Nat), o + r = 4 * s_n σ → am_J m5_clashingWith (D + 1) 5 [.ref 15, .int (nI k), .int (nI (4 * s_n σ)), .int (bs (pcl σ 1 k) o), .int (nI o)] [] mem Q := by
  have hn := hσ.1
  intro r
  induction r with
  | zero =>
    intro o ho
    have : o = 4 * s_n σ := by omega
    subst this
    exact sg5_clashingWith_5 ⟨fun _ => kk, fun q => absurd (Int32.le_refl _) q⟩
  | succ r ih =>
    intro o ho
    have ih' := ih (o + 1) (by omega)
    have nx : ∀ x : Int32, x = bs (pcl σ 1 k) (o + 1) → am_J m5_clashingWith (D + 1) 41 [.ref 15, .int (nI k), .int (nI (4 * s_n σ)), .int x, .int (nI o)] [] mem Q := fun x hx => sg5_clashingWith_41 (by rw [nI_1, hx]; exact ih')
    have nf : pcl σ 1 k o = false → am_J m5_clashingWith (D + 1) 41 [.ref 15, .int (nI k), .int (nI (4 * s_n σ)), .int (bs (pcl σ 1 k) o), .int (nI o)] [] mem Q := fun q => nx _ (by rw [← bs_step, q]; simp [or_0])
    refine sg5_clashingWith_5 ⟨fun q => absurd q ?_, fun _ => ?_⟩
    · rw [nI_leI (by omega) (by omega)]; omega
    · rw [k4 o (by omega), k4 k (by omega), nI_eq (by omega) (by omega)]
      refine ⟨fun q => nf ?_, fun q => ?_⟩
      · unfold pcl; rw [decide_eq_false (by omega)]; rfl
      · have e1 : k = 4 * (k / 4) + k % 4 := by omega
        have e2 : o = 4 * (o / 4) + o % 4 := by omega
        have h0 := c0_doClash (d := D) (mem := mem) (σ := σ) (z := 1) (k := s_n σ) (i := k / 4) (c := k % 4) (j := o / 4) (e := o % 4) (P := fun r_1 mem_1 => (r_1 = 0 → am_J m5_clashingWith (D + 1) 41 [.ref 15, .int (nI k), .int (nI (4 * s_n σ)), .int (bs (pcl σ 1 k) o), .int (nI o)] [] mem_1 Q) ∧ (¬ r_1 = 0 → am_J m5_clashingWith (D + 1) 41 [.ref 15, .int (nI k), .int (nI (4 * s_n σ)), .int ((bs (pcl σ 1 k) o) ||| ((1 : Int32) <<< (nI o &&& 31))), .int (nI o)] [] mem_1 Q)) hσ (by omega) (by omega) hB (by omega) (by omega) (by omega) (by omega) (by omega) (by omega) hC.1 ⟨fun q1 => nf ?_, fun q1 => nx _ ?_⟩
        · rw [← e1, ← e2] at h0; exact h0
        · unfold pcl; rw [bi_0.mp q1]; simp
        · have : pcl σ 1 k o = true := by unfold pcl; rw [bi_n0.mp q1, decide_eq_true (by omega)]; rfl
          rw [← bs_step, this]; rfl
theorem c5_clashingWith {d : Nat} {mem : am_Mem} {P : Int32 → am_Mem → Prop} {σ : mp_S} {k : Nat} (hσ : s_ok σ) (hC : Cz mem σ) (hB : Bx mem σ 1 (s_n σ)) (hk : k < 4 * s_n σ)
    (h : P (bs (pcl σ 1 k) (4 * s_n σ)) mem) : am_Ci m5_clashingWith (d + 1) [.ref 15, .int (nI k), .int (nI (4 * s_n σ))] mem P :=
  am_ci rfl rfl rfl (sg5_clashingWith_0 (clashingWith_loop hσ hC hB hk (am_eq h rfl) (4 * s_n σ) 0 (by omega)))
def pin (σ : mp_S) (k : Nat) : Bool := g_in σ 1 (k / 4) (k % 4)
/-- the boxes below k are studied -/
def St (mem : am_Mem) (σ : mp_S) (k : Nat) : Prop := mem 15 4 = bs (pin σ) k ∧ ∀ j, j < k → mem 16 j = bs (g_cov σ 1 (j / 4) (j % 4)) (s_n σ) ∧ mem 17 j = bs (pcl σ 1 j) (4 * s_n σ)
theorem St.keep {mem mem' : am_Mem} {σ : mp_S} {k : Nat} (h : St mem σ k) (h15 : mem' 15 4 = mem 15 4) (h16 : mem' 16 = mem 16) (h17 : mem' 17 = mem 17) : St mem' σ k := by
  unfold St at *; rw [h15, h16, h17]; exact h
theorem study_loop {D : Nat} {Q : Option Value → am_Mem → Prop} {mem0 : am_Mem} {σ : mp_S} (hσ : s_ok σ) (hC : Cz mem0 σ) (hB : Bx mem0 σ 1 (s_n σ))
    (k : ∀ mem, sm 15 18 mem0 mem → mem 15 7 = mem0 15 7 → St mem σ (4 * s_n σ) → Q none mem) :
    ∀ (r o : Nat) (mem : am_Mem), o + r = 4 * s_n σ → sm 15 18 mem0 mem → mem 15 7 = mem0 15 7 → St mem σ o → am_J m5_study (D + 2) 26 [.ref 15, .null, .int (nI (4 * s_n σ)), .int (nI o)] [] mem Q := by
  have hn := hσ.1
  intro r
  induction r with
  | zero =>
    intro o mem ho hs h7 hS
    have : o = 4 * s_n σ := by omega
    subst this
    exact sg5_study_26 ⟨fun _ => k mem hs h7 hS, fun q => absurd (Int32.le_refl _) q⟩
  | succ r ih =>
    intro o mem ho hs h7 hS
    have e32 : vp_in (nI o) 32 := vp_in_nI (by omega) (by omega)
    have co : (nI o).toNatClampNeg = o := nI_clamp (by omega)
    have hC1 : Cz mem σ := hC.keep (fun a h1 h2 => hs a (by omega))
    have hB1 : Bx mem σ 1 (s_n σ) := hB.keep (fun a h1 h2 => hs a (by omega))
    have e1 : nI o = nI (4 * (o / 4) + o % 4) := by congr 1; omega
    refine sg5_study_26 ⟨fun q => absurd q ?_, fun _ => ?_⟩
    · rw [nI_leI (by omega) (by omega)]; omega
    · rw [co]
      rw [show (Value.int (nI o)) = Value.int (nI (4 * (o / 4) + o % 4)) by rw [← e1]]
      refine c0_sitesWithin hσ (by omega) (by omega) hB1 hC1.2.1 (i := o / 4) (by omega) (by omega) ⟨e32, ?_⟩
      rw [← e1]
      generalize hm1 : am_set mem 16 o (bs (g_cov σ 1 (o / 4) (o % 4)) (s_n σ)) = mem1
      have hs1 : sm 15 18 mem0 mem1 := hm1 ▸ sm_set hs (by omega) (by omega)
      have hC2 : Cz mem1 σ := hC.keep (fun a h1 h2 => hs1 a (by omega))
      have hB2 : Bx mem1 σ 1 (s_n σ) := hB.keep (fun a h1 h2 => hs1 a (by omega))
      refine c5_clashingWith hσ hC2 hB2 (by omega) ⟨e32, ?_⟩
      generalize hm2 : am_set mem1 17 o (bs (pcl σ 1 o) (4 * s_n σ)) = mem2
      have hs2 : sm 15 18 mem0 mem2 := hm2 ▸ sm_set hs1 (by omega) (by omega)
      have hC3 : Cz mem2 σ := hC.keep (fun a h1 h2 => hs2 a (by omega))
      have hB3 : Bx mem2 σ 1 (s_n σ) := hB.keep (fun a h1 h2 => hs2 a (by omega))
      have h154 : ∀ j, mem2 15 j = mem 15 j := by intro j; rw [← hm2, ← hm1, am_set_na _ _ (by decide), am_set_na _ _ (by decide)]
      have hJ : ∀ j, j < o + 1 → mem2 16 j = bs (g_cov σ 1 (j / 4) (j % 4)) (s_n σ) ∧ mem2 17 j = bs (pcl σ 1 j) (4 * s_n σ) := by
        intro j hj
        rw [← hm2, am_set_na _ _ (show (16 : Nat) ≠ 17 by decide)]
        by_cases hjo : j = o
        · subst hjo
          rw [am_set_eq, ← hm1, am_set_eq]; exact ⟨rfl, rfl⟩
        · rw [am_set_nj _ _ hjo, ← hm1, am_set_nj _ _ hjo, am_set_na _ _ (show (17 : Nat) ≠ 16 by decide)]
          exact hS.2 j (by omega)
      have nx : ∀ (x : Int32) (mem3 : am_Mem), x = bs (pin σ) (o + 1) → mem3 = am_set mem2 15 4 x → am_J m5_study (D + 2) 80 [.ref 15, .null, .int (nI (4 * s_n σ)), .int (nI o)] [] mem3 Q := by
        intro x mem3 hx h3
        refine sg5_study_80 ?_
        rw [nI_1]
        subst h3
        refine ih (o + 1) _ (by omega) (sm_set hs2 (by omega) (by omega)) (by rw [am_set_nj _ _ (by decide), h154]; exact h7) ⟨by rw [am_set_eq]; exact hx, fun j hj => ?_⟩
        rw [am_set_na _ _ (show (16 : Nat) ≠ 15 by decide), am_set_na _ _ (show (17 : Nat) ≠ 15 by decide)]
        exact hJ j hj
      rw [show (Value.int (nI o)) = Value.int (nI (4 * (o / 4) + o % 4)) by rw [← e1]]
      refine c0_mayStand hσ (by omega) (by omega) hB3 (i := o / 4) (by omega) (by omega) (by omega) ((hC3.2.2 (o / 4) (by omega)).2 _ (by omega)) ⟨fun q => ?_, fun q => ?_⟩
      · rw [← e1]
        refine nx (mem2 15 4) mem2 ?_ ?_
        · rw [h154, hS.1, ← bs_step]
          have : pin σ o = false := bi_0.mp q
          rw [this]; simp [or_0]
        · funext a
          by_cases ha : a = 15
          · subst ha
            funext j
            rw [am_set_at]
            by_cases hj : j = 4
            · subst hj; simp
            · simp [hj]
          · rw [am_set_na _ _ ha]
      · rw [← e1]
        refine nx _ _ ?_ rfl
        rw [h154, hS.1, ← bs_step]
        have : pin σ o = true := bi_n0.mp q
        rw [this]; rfl
theorem c5_study {d : Nat} {mem : am_Mem} {P : am_Mem → Prop} {σ : mp_S} {sz : Int} (hσ : s_ok σ) (hC : Ch mem σ) (h1 : 1 ≤ sz) (h2 : sz ≤ 40)
    (h : ∀ mem', sm 8 18 mem mem' → mem' 15 7 = mem 15 7 → Bx mem' (s_sz σ sz) 1 (s_n σ) → St mem' (s_sz σ sz) (4 * s_n σ) → P mem') : am_Cv m5_study (d + 3) [.ref 15, .int (iz sz)] mem P := by
  refine am_cv rfl rfl rfl (sg5_study_0 (c0_measure hσ hC h1 h2 (z := 1) (by omega) (by omega) (fun mem1 hs1 hB1 => ?_)))
  have hC1 : Cz mem1 (s_sz σ sz) := (hC.cz sz).keep (fun a h1 h2 => hs1 a (by omega))
  have e : (4 : Int32) * mem1 1 4 = nI (4 * s_n (s_sz σ sz)) := by rw [hC1.2.1, show (4 : Int32) = nI 4 from rfl, pk_mul]
  rw [e]
  generalize hm2 : am_set mem1 15 4 0 = mem2
  have hs2 : sm 8 18 mem mem2 := hm2 ▸ sm_set (sm_wd hs1 (by omega) (by omega)) (by omega) (by omega)
  have hC2 : Cz mem2 (s_sz σ sz) := hC1.keep (fun a h1 h2 => by rw [← hm2, am_set_na _ _ (by omega)])
  have hB2 : Bx mem2 (s_sz σ sz) 1 (s_n (s_sz σ sz)) := hB1.keep (fun a h1 h2 => by rw [← hm2, am_set_na _ _ (by omega)])
  have h7 : mem2 15 7 = mem 15 7 := by rw [← hm2, am_set_nj _ _ (by decide), hs1 15 (by omega)]
  refine study_loop (s_ok_sz hσ h1 h2) hC2 hB2 (fun mem3 hs3 h73 hS3 => ⟨rfl, h mem3 (sm_tr hs2 (sm_wd hs3 (by omega) (by omega))) (h73.trans h7) (hB2.keep (fun a h1 h2 => hs3 a (by omega))) hS3⟩) (4 * s_n (s_sz σ sz)) 0 mem2 (by omega) (sm_rf _ _ _) rfl ⟨by rw [← hm2, am_set_eq]; rfl, fun j hj => absurd hj (by omega)⟩
