set_option maxHeartbeats 1000000 in
theorem measure_step {D : Nat} {Q : Option Value → am_Mem → Prop} {mem : am_Mem} {i c : Nat} (hi : i < 8) (hc : c < 4) {v1 v2 bw bh : Int32}
    (k : am_J m0_measure (D + 1) 106 [.ref 8, .int v1, .int v2, .int (nI i), .int bw, .int bh, .int (nI (c + 1)), .null] [] (am_set (am_set (am_set (am_set mem 11 (4 * i + c) (if c = 1 ∨ c = 2 then mem 9 i - bw else mem 9 i)) 13 (4 * i + c) (if 2 ≤ c then mem 10 i - bh else mem 10 i)) 12 (4 * i + c) ((if c = 1 ∨ c = 2 then mem 9 i - bw else mem 9 i) + bw)) 14 (4 * i + c) ((if 2 ≤ c then mem 10 i - bh else mem 10 i) + bh)) Q) :
    am_J m0_measure (D + 1) 106 [.ref 8, .int v1, .int v2, .int (nI i), .int bw, .int bh, .int (nI c), .null] [] mem Q := by
  have e8 : vp_in (nI i) 8 := vp_in_nI hi (by omega)
  have e32 : vp_in (nI (4 * i + c)) 32 := vp_in_nI (by omega) (by omega)
  have ci : (nI i).toNatClampNeg = i := nI_clamp (by omega)
  have cb : (nI (4 * i + c)).toNatClampNeg = 4 * i + c := nI_clamp (by omega)
  have k191 : ∀ (L B : Int32), L = (if c = 1 ∨ c = 2 then mem 9 i - bw else mem 9 i) → B = (if 2 ≤ c then mem 10 i - bh else mem 10 i) → am_J m0_measure (D + 1) 191 [.ref 8, .int v1, .int v2, .int (nI i), .int bw, .int bh, .int (nI c), .int (nI (4 * i + c))] [.int B, .int (nI (4 * i + c)), .ref 13] (am_set mem 11 (4 * i + c) L) Q := by
    intro L B hL hB
    refine sg0_measure_191 ⟨e32, e32, e32, e32, e32, ?_⟩
    rw [cb, nI_1]
    rw [← hL, ← hB] at k
    simpa [am_set_na, am_set_eq] using k
  have k155 : ∀ (L : Int32), L = (if c = 1 ∨ c = 2 then mem 9 i - bw else mem 9 i) → am_J m0_measure (D + 1) 155 [.ref 8, .int v1, .int v2, .int (nI i), .int bw, .int bh, .int (nI c), .int (nI (4 * i + c))] [.int L, .int (nI (4 * i + c)), .ref 11] mem Q := by
    intro L hL
    refine sg0_measure_155 ⟨e32, ?_⟩
    rw [cb, ci]
    have h173 : 2 ≤ c → False ∨ True := fun _ => Or.inr trivial
    have g : ¬ 2 ≤ c → am_J m0_measure (D + 1) 173 [.ref 8, .int v1, .int v2, .int (nI i), .int bw, .int bh, .int (nI c), .int (nI (4 * i + c))] [.int (nI (4 * i + c)), .ref 13] (am_set mem 11 (4 * i + c) L) Q := by
      intro h2
      refine sg0_measure_173 ⟨e8, ?_⟩
      rw [ci]
      refine k191 L _ hL ?_
      rw [if_neg h2, am_set_na _ _ (by decide)]
    have z0 : nI c = 0 ↔ c = 0 := by rw [← nI_0, nI_eq (by omega) (by omega)]
    have z1 : nI c = 1 ↔ c = 1 := by rw [show (1 : Int32) = nI 1 from rfl, nI_eq (by omega) (by omega)]
    refine ⟨fun q => g (by rw [z0] at q; omega), fun q => ⟨fun q1 => ⟨e8, k191 L _ hL ?_⟩, fun q1 => g (by rw [z1] at q1; omega)⟩⟩
    rw [z0] at q
    rw [z1] at q1
    rw [if_pos (by omega), am_set_na _ _ (by decide)]
  refine sg0_measure_106 ⟨fun q => absurd q ?_, fun _ => c6_boxOf ?_⟩
  · rw [show (4 : Int32) = nI 4 from rfl, nI_leI (by omega) (by omega)]; omega
  · have z0 : nI c = 0 ↔ c = 0 := by rw [← nI_0, nI_eq (by omega) (by omega)]
    have z3 : nI c = 3 ↔ c = 3 := by rw [show (3 : Int32) = nI 3 from rfl, nI_eq (by omega) (by omega)]
    rw [box_nI, ci]
    have g : ¬ (c = 1 ∨ c = 2) → am_J m0_measure (D + 1) 137 [.ref 8, .int v1, .int v2, .int (nI i), .int bw, .int bh, .int (nI c), .int (nI (4 * i + c))] [.int (nI (4 * i + c)), .ref 11] mem Q := by
      intro h2
      refine sg0_measure_137 ⟨e8, ?_⟩
      rw [ci]
      exact k155 _ (by rw [if_neg h2])
    refine ⟨fun q => g (by rw [z0] at q; omega), fun q => ⟨fun q1 => ⟨e8, k155 _ ?_⟩, fun q1 => g (by rw [z3] at q1; omega)⟩⟩
    rw [z0] at q
    rw [z3] at q1
    rw [if_pos (by omega)]
/-- one box as the class has measured it -/
def Fx (mem : am_Mem) (σ : mp_S) (z : Int) (i c : Nat) : Prop := mem 11 (4 * i + c) = iz (g_l σ z i c) ∧ mem 12 (4 * i + c) = iz (g_l σ z i c + g_bw σ i) ∧ mem 13 (4 * i + c) = iz (g_b σ z i c) ∧ mem 14 (4 * i + c) = iz (g_b σ z i c + g_bh σ i)
theorem Fx_set {mem : am_Mem} {σ : mp_S} {z : Int} {i c j e : Nat} {a b x y : Int32} (hx : mem 9 i = a) (hy : mem 10 i = b) (hc : c < 4) (he : e < 4)
    (h : (j = i ∧ e = c ∧ x = iz (g_l σ z i c) ∧ y = iz (g_b σ z i c)) ∨ (¬ (j = i ∧ e = c) ∧ Fx mem σ z j e)) : Fx (am_set (am_set (am_set (am_set mem 11 (4 * i + c) x) 13 (4 * i + c) y) 12 (4 * i + c) (x + iz (g_bw σ i))) 14 (4 * i + c) (y + iz (g_bh σ i))) σ z j e := by
  rcases h with ⟨rfl, rfl, rfl, rfl⟩ | ⟨h1, h2⟩
  · refine ⟨?_, ?_, ?_, ?_⟩ <;> simp [am_set_na, am_set_eq, iz_add]
  · have hne : 4 * j + e ≠ 4 * i + c := by omega
    obtain ⟨f1, f2, f3, f4⟩ := h2
    refine ⟨?_, ?_, ?_, ?_⟩ <;> simp [am_set_na, am_set_nj, hne, f1, f2, f3, f4]
theorem measure_in {D : Nat} {Q : Option Value → am_Mem → Prop} {mem0 : am_Mem} {σ : mp_S} {z : Int} {v1 v2 : Int32} {i : Nat} (hi : i < 8)
    (k : ∀ mem, sm 8 15 mem0 mem → Bx mem σ z (i + 1) → am_J m0_measure (D + 1) 28 [.ref 8, .int v1, .int v2, .int (nI (i + 1)), .null, .null, .null, .null] [] mem Q) :
    ∀ (r c : Nat) (mem : am_Mem), c + r = 4 → sm 8 15 mem0 mem → Bx mem σ z i → mem 9 i = iz (s_x σ i * z) → mem 10 i = iz (s_y σ i * z) → (∀ e, e < c → Fx mem σ z i e) →
      am_J m0_measure (D + 1) 106 [.ref 8, .int v1, .int v2, .int (nI i), .int (iz (g_bw σ i)), .int (iz (g_bh σ i)), .int (nI c), .null] [] mem Q := by
  intro r
  induction r with
  | zero =>
    intro c mem hc hs hB h9 h10 hF
    have hc4 : c = 4 := by omega
    subst hc4
    refine sg0_measure_106 ⟨fun _ => ?_, fun q => absurd (show (4 : Int32) ≤ nI 4 from Int32.le_refl _) q⟩
    rw [nI_1]
    refine k mem hs ⟨hB.1, hB.2.1, fun j hj => ?_⟩
    by_cases hji : j = i
    · subst hji
      exact ⟨h9, h10, hF⟩
    · exact hB.2.2 j (by omega)
  | succ r ih =>
    intro c mem hc hs hB h9 h10 hF
    refine measure_step hi (by omega) ?_
    have hx : (if c = 1 ∨ c = 2 then mem 9 i - iz (g_bw σ i) else mem 9 i) = iz (g_l σ z i c) := by
      rw [h9]; unfold g_l
      split
      · rw [iz_sub]
      · simp
    have hy : (if 2 ≤ c then mem 10 i - iz (g_bh σ i) else mem 10 i) = iz (g_b σ z i c) := by
      rw [h10]; unfold g_b
      split
      · rw [iz_sub]
      · simp
    rw [hx, hy]
    refine ih (c + 1) _ (by omega) (sm_set (sm_set (sm_set (sm_set hs (by omega) (by omega)) (by omega) (by omega)) (by omega) (by omega)) (by omega) (by omega)) ⟨?_, ?_, fun j hj => ⟨?_, ?_, fun e he => ?_⟩⟩ ?_ ?_ (fun e he => ?_)
    · simp [am_set_na, hB.1]
    · simp [am_set_na, hB.2.1]
    · simp [am_set_na, (hB.2.2 j hj).1]
    · simp [am_set_na, (hB.2.2 j hj).2.1]
    · exact Fx_set h9 h10 (by omega) he (Or.inr ⟨by omega, (hB.2.2 j hj).2.2 e he⟩)
    · simp [am_set_na, h9]
    · simp [am_set_na, h10]
    · by_cases hec : e = c
      · subst hec
        exact Fx_set h9 h10 (by omega) (by omega) (Or.inl ⟨rfl, rfl, rfl, rfl⟩)
      · exact Fx_set h9 h10 (by omega) (by omega) (Or.inr ⟨by omega, hF e (by omega)⟩)
theorem measure_out {D : Nat} {Q : Option Value → am_Mem → Prop} {mem0 : am_Mem} {τ : mp_S} {z : Int} {sz : Int} (hτ : s_ok τ) (hC : Ch mem0 τ) (h1 : 1 ≤ sz) (h2 : sz ≤ 40) (hz1 : 1 ≤ z) (hz2 : z ≤ 6)
    (k : ∀ mem, sm 8 15 mem0 mem → Bx mem (s_sz τ sz) z (s_n τ) → Q none mem) :
    ∀ (r i : Nat) (mem : am_Mem), i + r = s_n τ → sm 8 15 mem0 mem → Bx mem (s_sz τ sz) z i → am_J m0_measure (D + 2) 28 [.ref 8, .int (iz sz), .int (iz z), .int (nI i), .null, .null, .null, .null] [] mem Q := by
  intro r
  induction r with
  | zero =>
    intro i mem hi hs hB
    have hn := hτ.1
    have e : mem 1 4 = nI (s_n τ) := by rw [hs 1 (by omega)]; exact hC.2.2.2.2.1
    have hin : i = s_n τ := by omega
    subst hin
    refine sg0_measure_28 ⟨fun _ => k mem hs hB, fun q => absurd ?_ q⟩
    rw [e]; exact Int32.le_refl _
  | succ r ih =>
    intro i mem hi hs hB
    have hn := hτ.1
    have e : mem 1 4 = nI (s_n τ) := by rw [hs 1 (by omega)]; exact hC.2.2.2.2.1
    have hin : i < s_n τ := by omega
    have e8 : vp_in (nI i) 8 := vp_in_nI (by omega) (by omega)
    have ci : (nI i).toNatClampNeg = i := nI_clamp (by omega)
    obtain ⟨c2, c3, c4, c5, -⟩ := hC.2.2.2.2.2 i hin
    obtain ⟨-, -, hw, hh, -⟩ := hτ.2.2.2.2.2 i hin
    refine sg0_measure_28 ⟨fun q => absurd q ?_, fun _ => ⟨e8, e8, e8, e8, e8, ?_⟩⟩
    · rw [e, nI_leI (by omega) (by omega)]; omega
    · simp only [ci, am_set_na _ _ (show (3 : Nat) ≠ 9 by decide), am_set_na _ _ (show (4 : Nat) ≠ 9 by decide), am_set_na _ _ (show (4 : Nat) ≠ 10 by decide), hs 2 (by omega), hs 3 (by omega), hs 4 (by omega), c2, c3, c4, iz_mul]
      refine c6_sized h1 h2 hw.1 hw.2 ⟨e8, ?_⟩
      simp only [am_set_na _ _ (show (5 : Nat) ≠ 9 by decide), am_set_na _ _ (show (5 : Nat) ≠ 10 by decide), hs 5 (by omega), c5]
      refine c6_sized h1 h2 hh.1 (by omega) ?_
      refine measure_in (σ := s_sz τ sz) (z := z) (by omega) (fun mem' hs' hB' => ih (i + 1) mem' (by omega) hs' hB') 4 0 _ (by omega) (sm_set (sm_set hs (by omega) (by omega)) (by omega) (by omega)) ⟨?_, ?_, fun j hj => ⟨?_, ?_, fun c hc => ?_⟩⟩ ?_ ?_ (fun e he => absurd he (by omega))
      · simp [am_set_na, hB.1]
      · simp [am_set_na, hB.2.1]
      · have : j ≠ i := by omega
        simp [am_set_na, am_set_nj, this, (hB.2.2 j hj).1]
      · have : j ≠ i := by omega
        simp [am_set_na, am_set_nj, this, (hB.2.2 j hj).2.1]
      · obtain ⟨f1, f2, f3, f4⟩ := (hB.2.2 j hj).2.2 c hc
        refine ⟨?_, ?_, ?_, ?_⟩ <;> simp [am_set_na, f1, f2, f3, f4]
      · simp [am_set_na, am_set_eq]; rfl
      · simp [am_set_eq]; rfl
theorem c0_measure {d : Nat} {mem : am_Mem} {P : am_Mem → Prop} {σ : mp_S} {sz z : Int} (hσ : s_ok σ) (hC : Ch mem σ) (h1 : 1 ≤ sz) (h2 : sz ≤ 40) (hz1 : 1 ≤ z) (hz2 : z ≤ 6)
    (h : ∀ mem', sm 8 15 mem mem' → Bx mem' (s_sz σ sz) z (s_n σ) → P mem') : am_Cv m0_measure (d + 2) [.ref 8, .int (iz sz), .int (iz z)] mem P := by
  refine am_cv rfl rfl rfl (sg0_measure_0 ?_)
  rw [am_set_na _ _ (show (1 : Nat) ≠ 8 by decide), hC.1, hC.2.1, iz_mul, iz_mul]
  refine measure_out hσ hC h1 h2 hz1 hz2 (fun mem' hs hB => ⟨rfl, h mem' hs hB⟩) (s_n σ) 0 _ (by omega) (sm_set (sm_set (sm_rf 8 15 mem) (by omega) (by omega)) (by omega) (by omega)) ⟨?_, ?_, fun j hj => absurd hj (by omega)⟩
  · simp [am_set_at]; rfl
  · simp [am_set_at]; rfl
