theorem bit_bi (b : Bool) (z : Int32) : bi b &&& z = bi (b && bt z 0) := by
  apply b_ext
  intro i hi
  have h1 : ∀ i, i < 32 → bt 1 i = decide (i = 0) := by decide +kernel
  cases b
  · rw [b_and, bi_f, b_0]; simp [bi_f, b_0]
  · rw [b_and, bi_t, h1 i hi]
    by_cases h0 : i = 0
    · subst h0
      cases hz : bt z 0
      · simp [bi_f, b_0]
      · simp [bi_t, h1 0 (by omega)]
    · rw [decide_eq_false h0]
      cases hz : bt z 0
      · simp [bi_f, b_0]
      · simp [bi_t, h1 i hi, h0]
theorem bit_pair (F K : Int32) {j : Nat} (hj : j < 32) : (((F >>> (nI j &&& 31)) &&& (1 : Int32)) &&& (K >>> (nI j &&& 31))) = bi (bt F j && bt K j) := by
  rw [bit_s F j hj, bit_bi, b_sshr j hj K (by omega), if_pos (by omega), Nat.add_zero]
theorem sumN_s (f : Nat → Nat) (c : Nat) : sumN f (c + 1) = sumN f c + f c := rfl
def ind (b : Bool) : Nat := if b = true then 1 else 0
theorem bi_ind (b : Bool) : bi b = nI (ind b) := by cases b <;> rfl
theorem mbl_sum (x : Int32) : ∀ m, (mbl m x).length = sumN (fun k => ind (bt x k)) m := by
  intro m
  induction m with
  | zero => rfl
  | succ m ih =>
    rw [mbl_succ, List.length_append, ih]
    simp only [sumN]
    unfold ind
    by_cases h : bt x m = true
    · rw [if_pos h, if_pos h]; rfl
    · rw [if_neg h, if_neg h]; rfl
theorem sym2 {f : Nat → Nat → Nat} (hs : ∀ a b, f a b = f b a) (h0 : ∀ a, f a a = 0) : ∀ m, sumN (fun s => sumN (f s) m) m = 2 * sumN (fun i => sumN (f i) i) m := by
  intro m
  induction m with
  | zero => rfl
  | succ m ih =>
    have e1 : sumN (fun s => sumN (f s) (m + 1)) (m + 1) = sumN (fun s => sumN (f s) m + f s m) m + (sumN (f m) m + f m m) := by simp only [sumN]
    have e2 : sumN (fun s => f s m) m = sumN (f m) m := sumN_congr (fun i _ => hs i m)
    rw [e1, sumN_add, ih, e2, h0]
    simp only [sumN]; omega
theorem pcl_sym (σ : mp_S) (a b : Nat) : pcl σ 1 a b = pcl σ 1 b a := by
  unfold pcl
  rw [g_clash_sym]
  congr 1
  apply decide_eq_decide.mpr
  omega
theorem pcl_self (σ : mp_S) (a : Nat) : pcl σ 1 a a = false := by
  unfold pcl
  rw [decide_eq_false (fun q => q.2.2 rfl)]; rfl
def cpr (σ : mp_S) (k j : Nat) : Nat := ind (bt (pF σ 0) k && (bt (pF σ 0) j && pcl σ 1 k j))
theorem cpr_sym (σ : mp_S) (a b : Nat) : cpr σ a b = cpr σ b a := by
  unfold cpr
  rw [pcl_sym]
  cases bt (pF σ 0) a <;> cases bt (pF σ 0) b <;> rfl
theorem cpr_self (σ : mp_S) (a : Nat) : cpr σ a a = 0 := by
  unfold cpr
  rw [pcl_self]
  cases bt (pF σ 0) a <;> rfl
theorem ind_le (b : Bool) : ind b ≤ 1 := by cases b <;> decide
/-- how many boxes are FREE, and how many pairs of these CLASH -/
def nfr (σ : mp_S) : Nat := sumN (fun k => ind (bt (pF σ 0) k)) 32
def npr (σ : mp_S) : Nat := sumN (fun k => sumN (cpr σ k) k) 32
theorem count7 {m1 : am_Mem} {P : Int32 → am_Mem → Prop} {σ : mp_S} {v : Int32} (hI1 : Inv m1 σ)
    (h : ∀ m2, md m1 m2 → (v.toInt = 0 → P (nI (s_n σ)) m2) ∧ (v.toInt = 1 → P (iz (s_W σ)) m2) ∧ (v.toInt = 2 → P (iz (s_H σ)) m2) ∧ (v.toInt = 3 → P (nI (nfr σ)) m2) ∧ (v.toInt = 4 → P (nI (npr σ)) m2) ∧ ((v.toInt < 0 ∨ 4 < v.toInt) → P (-2) m2)) : am_Ci m7_count 20 [.ref 30, .int v] m1 P := by
  have hσ := hI1.1
  have hn := hσ.1
  refine am_ci rfl rfl rfl (sg7_count_0 (c7_layBits hσ (by omega) (by omega) hI1.2.2 (fun m2 s2 h16 h40 => ?_)))
  have h16 : m2 30 16 = pF σ 0 := h16
  have hM2 := hI1.2.2.md s2
  have hK : ∀ k, k < 32 → ∀ j, j < 32 → bt (m2 40 k) j = pcl σ 1 k j := fun k hk j hj => by
    rw [h40 k hk, bs_bt _ _ (by omega) j hj, decide_eq_true hj, Bool.true_and]
  obtain ⟨g0, g1, g2, g3, g4, g5⟩ := h m2 s2
  have loop : ∀ (r k : Nat), k + r = 32 → am_J m7_count 20 11 [.ref 30, .int v, .int (nI (sumN (fun k => ind (bt (pF σ 0) k)) k)), .int (nI (sumN (fun k => sumN (cpr σ k) k) k)), .int (nI k), .null] [] m2 (fun r mem' => ∃ x, r = some (.int x) ∧ P x mem') := by
    intro r
    induction r with
    | zero =>
      intro k hk
      have : k = 32 := by omega
      subst this
      refine sg7_count_11 ⟨fun _ => ?_, fun q => absurd (by decide) q⟩
      rw [hM2.1.1, hM2.1.2.1, hM2.1.2.2.1]
      exact ⟨fun q => ⟨_, rfl, g0 q⟩, fun q => ⟨_, rfl, g1 q⟩, fun q => ⟨_, rfl, g2 q⟩, fun q => ⟨_, rfl, g3 q⟩, fun q => ⟨_, rfl, g4 q⟩, fun q => ⟨_, rfl, g5 q⟩⟩
    | succ r ih =>
      intro k hk
      have nxt := ih (k + 1) (by omega)
      simp only [sumN] at nxt
      refine sg7_count_11 ⟨fun q => absurd q (by rw [show (32 : Int32) = nI 32 from rfl, nI_leI (by omega) (by omega)]; omega), fun _ => ?_⟩
      rw [h16, bit_s _ k (by omega), bi_ind, nI_add]
      have inner : ∀ (r2 j : Nat), j + r2 = k → am_J m7_count 20 33 [.ref 30, .int v, .int (nI (sumN (fun k => ind (bt (pF σ 0) k)) k + ind (bt (pF σ 0) k))), .int (nI (sumN (fun k => sumN (cpr σ k) k) k + sumN (cpr σ k) j)), .int (nI k), .int (nI j)] [] m2 (fun r mem' => ∃ x, r = some (.int x) ∧ P x mem') := by
        intro r2
        induction r2 with
        | zero =>
          intro j hj
          have : j = k := by omega
          subst this
          refine sg7_count_33 ⟨fun _ => sg7_count_82 ?_, fun q => absurd (Int32.le_refl _) q⟩
          rw [nI_1]; exact nxt
        | succ r2 ih2 =>
          intro j hj
          have n2 := ih2 (j + 1) (by omega)
          simp only [sumN] at n2
          refine sg7_count_33 ⟨fun q => absurd q (by rw [nI_leI (by omega) (by omega)]; omega), fun _ => ?_⟩
          rw [h16, bit_s _ k (by omega), bi_1, bit_pair _ _ (by omega), nI_clamp (by omega), hK k (by omega) j (by omega)]
          refine ⟨fun q => sg7_count_82 ?_, fun q => ⟨vp_in_nI (by omega) (by omega), ?_⟩⟩
          · have hz : ∀ i, cpr σ k i = 0 := fun i => by unfold cpr; rw [Bool.eq_false_iff.mpr q]; rfl
            have e : ∀ m, sumN (cpr σ k) m = 0 := by
              intro m
              induction m with
              | zero => rfl
              | succ m ihm => simp only [sumN]; rw [ihm, hz]
            rw [e] at nxt
            rw [e, nI_1]; exact nxt
          · have e : cpr σ k j = ind (bt (pF σ 0) j && pcl σ 1 k j) := by unfold cpr; rw [q, Bool.true_and]
            rw [bi_ind, ← e, nI_add, nI_1, Nat.add_assoc]; exact n2
      exact inner k 0 (by omega)
  exact loop 32 0 (by omega)
theorem F_eq {σ : mp_S} (hσ : s_ok σ) : bs (pfr σ (ev (s_n σ))) (4 * s_n σ) = pF σ 0 := by
  have hn := hσ.1
  apply b_ext
  intro k hk
  by_cases h : k < 4 * s_n σ
  · exact openF hσ h
  · rw [bs_bt _ _ (by omega) k hk, pF_bt 0 hk, decide_eq_false h]
    unfold pfree
    rw [decide_eq_false (show ¬ k / 4 < s_n σ by omega)]; rfl
theorem c5_countClashes {mem : am_Mem} {P : Int32 → am_Mem → Prop} {σ : mp_S} (hσ : s_ok σ) (hN : mem 1 4 = nI (s_n σ)) (hS : St mem σ (4 * s_n σ)) (h : P (nI (npr σ)) mem) : am_Ci m5_countClashes 19 [.ref 15, .int (pF σ 0)] mem P := by
  have hn := hσ.1
  have hz : ∀ k, 4 * s_n σ ≤ k → k < 32 → ∀ j, cpr σ k j = 0 := fun k h1 h2 j => by
    have : bt (pF σ 0) k = false := by
      rw [pF_bt 0 h2]
      unfold pfree
      rw [decide_eq_false (show ¬ k / 4 < s_n σ by omega)]; rfl
    unfold cpr; rw [this]; rfl
  have sz : ∀ k m, (∀ j, cpr σ k j = 0) → sumN (cpr σ k) m = 0 := fun k m hk => by
    induction m with
    | zero => rfl
    | succ m ihm => simp only [sumN]; rw [ihm, hk]
  have tot : sumN (fun s => sumN (cpr σ s) 32) (4 * s_n σ) = 2 * npr σ := by
    unfold npr
    rw [← sym2 (cpr_sym σ) (cpr_self σ) 32]
    have key : ∀ t, 4 * s_n σ + t ≤ 32 → sumN (fun s => sumN (cpr σ s) 32) (4 * s_n σ + t) = sumN (fun s => sumN (cpr σ s) 32) (4 * s_n σ) := by
      intro t
      induction t with
      | zero => intro _; rfl
      | succ t iht =>
        intro ht
        rw [show 4 * s_n σ + (t + 1) = (4 * s_n σ + t) + 1 by omega]
        rw [sumN_s, iht (by omega), sz _ _ (hz _ (by omega) (by omega))]; rfl
    have := key (32 - 4 * s_n σ) (by omega)
    rw [show 4 * s_n σ + (32 - 4 * s_n σ) = 32 by omega] at this
    exact this.symm
  have b1 : sumN (fun s => sumN (cpr σ s) 32) (4 * s_n σ) ≤ 4 * s_n σ * (32 * 1) := sumN_le (fun i _ => sumN_le (fun j _ => ind_le _))
  have row : ∀ k, k < 4 * s_n σ → bt (pF σ 0) k = true → (mbl 32 (mem 17 k &&& pF σ 0)).length = sumN (cpr σ k) 32 := by
    intro k hk hF
    rw [mbl_sum]
    refine sumN_congr (fun j hj => ?_)
    unfold cpr
    rw [b_and, hS.K hn k hk j hj, hF, Bool.true_and, Bool.and_comm]
  have loop : ∀ (r k : Nat), k + r = 4 * s_n σ → am_J m5_countClashes 19 4 [.ref 15, .int (pF σ 0), .int (nI (sumN (fun s => sumN (cpr σ s) 32) k)), .int (nI k)] [] mem (fun r mem' => ∃ x, r = some (.int x) ∧ P x mem') := by
    intro r
    induction r with
    | zero =>
      intro k hk
      have : k = 4 * s_n σ := by omega
      subst this
      refine sg5_countClashes_4 ⟨fun _ => ⟨_, rfl, ?_⟩, fun q => absurd (by rw [hN, show (4 : Int32) = nI 4 from rfl, pk_mul]; exact Int32.le_refl _) q⟩
      rw [tot, show (2 : Int32) = nI 2 from rfl, pk_div (by rw [tot] at b1; omega) (by omega) (by omega), Nat.mul_div_cancel_left _ (by omega)]
      exact h
    | succ r ih =>
      intro k hk
      have nxt := ih (k + 1) (by omega)
      rw [sumN_s] at nxt
      refine sg5_countClashes_4 ⟨fun q => absurd q (by rw [hN, show (4 : Int32) = nI 4 from rfl, pk_mul, nI_leI (by omega) (by omega)]; omega), fun _ => c6_hasBit (by omega) (bi_ite (fun q => sg5_countClashes_39 ?_) (fun q => ⟨vp_in_nI (by omega) (by omega), cJ_bitCount (sg5_countClashes_39 ?_)⟩))⟩
      · rw [nI_1]
        rw [sz k 32 (fun j => by unfold cpr; rw [q]; rfl)] at nxt
        exact nxt
      · rw [nI_1, nI_clamp (by omega), row k (by omega) q, nI_add]
        exact nxt
  exact am_ci rfl rfl rfl (sg5_countClashes_0 (loop (4 * s_n σ) 0 (by omega)))
theorem pr_count {mem : am_Mem} {σ : mp_S} (hI : Inv mem σ) (v : Int32) : Pr m6_count m7_count [.int v] mem := by
  intro P hP
  have hσ := hI.1
  have hn := hσ.1
  have hz := hσ.2.2.2.1
  refine am_ci rfl rfl rfl (sg6_count_0 ?_)
  rw [hI.2.1.1, hI.2.1.2.1, hI.2.1.2.2.1, hI.2.1.2.2.2.2.1]
  refine ⟨fun q => ⟨_, rfl, ?_⟩, fun q => ⟨_, rfl, ?_⟩, fun q => ⟨_, rfl, ?_⟩, fun q => ?_, fun q => ?_, fun q => ⟨_, rfl, ?_⟩⟩
  · exact count7 hI (fun m2 s2 => ⟨fun _ => hP _ m2 σ (hI.m s2), fun _ => by omega, fun _ => by omega, fun _ => by omega, fun _ => by omega, fun _ => by omega⟩)
  · exact count7 hI (fun m2 s2 => ⟨fun _ => by omega, fun _ => hP _ m2 σ (hI.m s2), fun _ => by omega, fun _ => by omega, fun _ => by omega, fun _ => by omega⟩)
  · exact count7 hI (fun m2 s2 => ⟨fun _ => by omega, fun _ => by omega, fun _ => hP _ m2 σ (hI.m s2), fun _ => by omega, fun _ => by omega, fun _ => by omega⟩)
  · refine c5_study hσ hI.2.1 hz.1 hz.2 (fun m1 s1 _ _ hS => ?_)
    have hS : St m1 σ (4 * s_n σ) := hS
    have hI1 : Inv m1 σ := hI.c (fun a ha => s1 a (by omega))
    have hN1 := hI1.2.1.2.2.2.2.1
    refine c1_everySite hn hN1 (c5_freeBoxes hσ hN1 hS (cJ_bitCount ⟨_, rfl, ?_⟩))
    rw [F_eq hσ, mbl_sum]
    exact count7 hI1 (fun m2 s2 => ⟨fun _ => by omega, fun _ => by omega, fun _ => by omega, fun _ => hP _ m2 σ (hI1.m s2), fun _ => by omega, fun _ => by omega⟩)
  · refine c5_study hσ hI.2.1 hz.1 hz.2 (fun m1 s1 _ _ hS => ?_)
    have hS : St m1 σ (4 * s_n σ) := hS
    have hI1 : Inv m1 σ := hI.c (fun a ha => s1 a (by omega))
    have hN1 := hI1.2.1.2.2.2.2.1
    refine c1_everySite hn hN1 (c5_freeBoxes hσ hN1 hS ?_)
    rw [F_eq hσ]
    refine c5_countClashes hσ hN1 hS ⟨_, rfl, ?_⟩
    exact count7 hI1 (fun m2 s2 => ⟨fun _ => by omega, fun _ => by omega, fun _ => by omega, fun _ => by omega, fun _ => hP _ m2 σ (hI1.m s2), fun _ => by omega⟩)
  · exact count7 hI (fun m2 s2 => ⟨fun _ => by omega, fun _ => by omega, fun _ => by omega, fun _ => by omega, fun _ => by omega, fun _ => hP _ m2 σ (hI.m s2)⟩)
