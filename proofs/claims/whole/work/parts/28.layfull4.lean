def pF (σ : mp_S) (aw : Int32) : Int32 := bs (pfree σ 1 (bt aw)) 32
theorem layK {σ : mp_S} {m : am_Mem} {n : Nat} (hn : n ≤ 8) (h : ∀ j, j < 32 → m 40 j = bs (pcl σ 1 j) 32) : ∀ k, k < 4 * n → ∀ b, b < 32 → bt (m 40 k) b = pcl σ 1 k b := by
  intro k hk b hb
  rw [h k (by omega), bs_bt _ 32 (by omega) b hb]; simp [hb]
theorem layFull_end {D : Nat} {Q : Option Value → am_Mem → Prop} {mem : am_Mem} {f : Nat} (hf : f < 2147483648) (h19 : mem 30 19 = nI f) (h : Q (some (.int (bi (decide (0 < f))))) mem) : am_J m7_layFull (D + 1) 187 [.ref 30, .null, .null, .null] [] mem Q := by
  refine sg7_layFull_187 ?_
  rw [h19, ← nI_0, nI_leI (by omega) (by omega)]
  refine ⟨fun q => ?_, fun q => ?_⟩
  · rw [decide_eq_false (by omega)] at h; exact h
  · rw [decide_eq_true (by omega)] at h; exact h
theorem c7_layFull_0 {d : Nat} {mem : am_Mem} {P : Int32 → am_Mem → Prop} {σ : mp_S} (hσ : s_ok σ) (hM : Mo mem σ 1 0)
    (h : ∀ mem', md mem mem' → mem' 30 19 = nI (cnt (pcl σ 1) (s_n σ) 0 (bt (pF σ 0))) → (∀ k, k < 4 * s_n σ → mem' 42 k = nI (cnt (pcl σ 1) (s_n σ) 0 (only (k / 4) (k % 4) (bt (pF σ 0))))) → P (bi (decide (0 < cnt (pcl σ 1) (s_n σ) 0 (bt (pF σ 0))))) mem') :
    am_Ci m7_layFull (d + 4) [.ref 30, .int 0] mem P := by
  have hn := hσ.1
  refine am_ci rfl rfl rfl (sg7_layFull_0 (c7_layBits hσ (by omega) (by omega) hM (fun m1 a1 a2 a3 => ?_)))
  generalize hm2 : am_set m1 30 19 0 = m2
  have a1' : md mem m2 := hm2 ▸ md_fld a1 (by omega)
  have a2' : m2 30 16 = pF σ 0 := by rw [← hm2, am_set_nj _ _ (by decide)]; exact a2
  have a3' : ∀ j, j < 32 → m2 40 j = bs (pcl σ 1 j) 32 := fun j hj => by rw [← hm2, am_set_na _ _ (by decide)]; exact a3 j hj
  have a4 : m2 30 19 = 0 := by rw [← hm2, am_set_eq]
  have hM2 := hM.md a1'
  refine layFull_11 (m0 := m2) (fun m3 b1 b2 b3 b4 b5 => ?_) 32 0 m2 (by omega) (Lk_rf m2) rfl (fun j hj => absurd hj (by omega))
  refine full_A (K := pcl σ 1) hn hM2.1.2.2.1 hM2.1.2.2.2.2.2.2 (layK hn a3') (s_n σ) 0 m3 (fun _ => 0) (bt (pF σ 0)) (by omega) b1 (fun i hi => absurd hi (by omega)) (fun _ => b4) (fun k hk => by rw [a2', b5, b_0]; simp) (fun m4 g1 g2 g3 g4 => ?_)
  refine sg7_layFull_46 ⟨fun _ => ?_, fun q => absurd (by decide : iz (((0 : Nat) : Int) - 1) < 0) q⟩
  have hc : cnt (pcl σ 1) (s_n σ) 0 (bt (pF σ 0)) < 2147483648 := by
    have h1 := cnt_le (pcl σ 1) (s_n σ) 0 (bt (pF σ 0))
    have h2 : 4 ^ s_n σ ≤ 4 ^ 8 := Nat.pow_le_pow_right (by omega) hn
    omega
  have h19 : m4 30 19 = nI (cnt (pcl σ 1) (s_n σ) 0 (bt (pF σ 0))) := by rw [g3, b2, a4]; simp
  refine layFull_end hc h19 ⟨_, rfl, h m4 (md_tr a1' g1.1) h19 (fun k hk => ?_)⟩
  rw [g4 k hk, b3 k (by omega)]
  unfold inc
  rw [if_neg (by omega)]; simp
theorem c7_layFull_1 {d : Nat} {mem : am_Mem} {P : Int32 → am_Mem → Prop} {σ : mp_S} {aw : Int32} (hσ : s_ok σ) (hM : Mo mem σ 1 aw)
    (h : ∀ mem', md mem mem' → P (bi (ful (pcl σ 1) (fun i => !bt aw i) (s_n σ) 0 (bt (pF σ aw)))) mem') : am_Ci m7_layFull (d + 4) [.ref 30, .int 1] mem P := by
  have hn := hσ.1
  refine am_ci rfl rfl rfl (sg7_layFull_0 (c7_layBits hσ (by omega) (by omega) hM (fun m1 a1 a2 a3 => ?_)))
  generalize hm2 : am_set m1 30 19 0 = m2
  have a1' : md mem m2 := hm2 ▸ md_fld a1 (by omega)
  have a2' : m2 30 16 = pF σ aw := by rw [← hm2, am_set_nj _ _ (by decide)]; exact a2
  have a3' : ∀ j, j < 32 → m2 40 j = bs (pcl σ 1 j) 32 := fun j hj => by rw [← hm2, am_set_na _ _ (by decide)]; exact a3 j hj
  have a4 : m2 30 19 = 0 := by rw [← hm2, am_set_eq]
  have hM2 := hM.md a1'
  refine layFull_11 (m0 := m2) (fun m3 b1 b2 b3 b4 b5 => ?_) 32 0 m2 (by omega) (Lk_rf m2) rfl (fun j hj => absurd hj (by omega))
  refine full_B (K := pcl σ 1) hn hM2.1.2.2.1 hM2.1.2.2.2.2.2.2 (layK hn a3') (s_n σ) 0 m3 (bt (pF σ aw)) (by omega) b1 (fun i hi => absurd hi (by omega)) (fun _ => b4) (fun k hk => by rw [a2', b5, b_0]; simp) (by rw [b2, a4]) (fun m4 g1 g2 g3 => ?_) (fun m4 g1 g2 g3 g4 => ?_)
  · refine layFull_end (f := 1) (by omega) g2 ⟨_, rfl, ?_⟩
    have := h m4 (md_tr a1' g1.1)
    rw [g3] at this; exact this
  · refine sg7_layFull_46 ⟨fun _ => ?_, fun q => absurd (by decide : iz (((0 : Nat) : Int) - 1) < 0) q⟩
    refine layFull_end (f := 0) (by omega) g3 ⟨_, rfl, ?_⟩
    have := h m4 (md_tr a1' g1.1)
    rw [g4] at this; exact this
