theorem ful_set {K : Nat → Nat → Bool} {set set' : Nat → Bool} : ∀ {r s : Nat} {o o' : Nat → Bool}, (∀ i, s ≤ i → i < s + r → set i = set' i) → (∀ k, 4 * s ≤ k → k < 4 * (s + r) → set (k / 4) = true → o k = o' k) → ful K set r s o = ful K set' r s o' := by
  intro r
  induction r with
  | zero => intro s o o' _ _; rfl
  | succ r ih =>
    intro s o o' hs ho
    simp only [ful]
    rw [← hs s (by omega) (by omega)]
    by_cases h : set s = true
    · rw [if_pos h, if_pos h]
      apply any_congr
      intro c hc
      have e : (4 * s + c) / 4 = s := by omega
      rw [ho (4 * s + c) (by omega) (by omega) (by rw [e]; exact h), ih (o' := mn K (4 * s + c) o') (fun i h1 h2 => hs i (by omega) (by omega)) (fun k h1 h2 h3 => by simp only [mn]; rw [ho k (by omega) (by omega) h3])]
    · rw [if_neg h, if_neg h]
      exact ih (fun i h1 h2 => hs i (by omega) (by omega)) (fun k h1 h2 h3 => ho k (by omega) (by omega) h3)
theorem sumN_pos {f : Nat → Nat} : ∀ {n : Nat}, 0 < sumN f n ↔ ∃ i, i < n ∧ 0 < f i := by
  intro n
  induction n with
  | zero =>
    constructor
    · intro h; exact absurd h (by simp [sumN])
    · rintro ⟨i, hi, -⟩; omega
  | succ n ih =>
    simp only [sumN]
    constructor
    · intro h
      by_cases h0 : 0 < f n
      · exact ⟨n, by omega, h0⟩
      · obtain ⟨i, hi, h1⟩ := ih.mp (by omega)
        exact ⟨i, by omega, h1⟩
    · rintro ⟨i, hi, h1⟩
      by_cases hin : i = n
      · subst hin; omega
      · have := ih.mpr ⟨i, by omega, h1⟩
        omega
theorem ful_cnt {K : Nat → Nat → Bool} {set : Nat → Bool} : ∀ {r s : Nat} {o : Nat → Bool}, (∀ i, s ≤ i → i < s + r → set i = true) → ful K set r s o = decide (0 < cnt K r s o) := by
  intro r
  induction r with
  | zero => intro s o _; rfl
  | succ r ih =>
    intro s o hs
    rw [Bool.eq_iff_iff, decide_eq_true_eq]
    simp only [ful, cnt]
    rw [if_pos (hs s (by omega) (by omega)), List.any_eq_true, sumN_pos]
    constructor
    · rintro ⟨c, hc, h⟩
      rw [Bool.and_eq_true, ih (fun i h1 h2 => hs i (by omega) (by omega)), decide_eq_true_eq] at h
      exact ⟨c, List.mem_range.mp hc, by rw [if_pos h.1]; exact h.2⟩
    · rintro ⟨c, hc, h⟩
      refine ⟨c, List.mem_range.mpr hc, ?_⟩
      split at h
      · rename_i ho
        rw [Bool.and_eq_true, ih (fun i h1 h2 => hs i (by omega) (by omega)), decide_eq_true_eq]
        exact ⟨ho, h⟩
      · exact absurd h (by omega)
theorem sum4 (f : Nat → Nat) : sumN f 4 = f 0 + f 1 + f 2 + f 3 := by simp [sumN]
theorem ite_0 {c : Prop} {hd : Decidable c} {a b e : Nat} (h : c → a = b) : (if c then a else e) = if c then b else e := by
  by_cases hc : c
  · rw [if_pos hc, if_pos hc, h hc]
  · rw [if_neg hc, if_neg hc]
theorem cnt_sum {K : Nat → Nat → Bool} : ∀ {r s i : Nat} {o : Nat → Bool}, s ≤ i → i < s + r → cnt K r s o = sumN (fun c => cnt K r s (only i c o)) 4 := by
  intro r
  induction r with
  | zero => intro s i o h1 h2; omega
  | succ r ih =>
    intro s i o h1 h2
    by_cases his : i = s
    · subst his
      have key : ∀ c, c < 4 → cnt K (r + 1) i (only i c o) = if o (4 * i + c) = true then cnt K r (i + 1) (mn K (4 * i + c) o) else 0 := by
        intro c hc
        have one : ∀ c', c' < 4 → (if only i c o (4 * i + c') = true then cnt K r (i + 1) (mn K (4 * i + c') (only i c o)) else 0) = if c' = c then (if o (4 * i + c) = true then cnt K r (i + 1) (mn K (4 * i + c) o) else 0) else 0 := by
          intro c' hc'
          have e : (4 * i + c') / 4 = i := by omega
          by_cases hcc : c' = c
          · subst hcc
            rw [if_pos rfl]
            have : only i c' o (4 * i + c') = o (4 * i + c') := by unfold only; simp
            rw [this]
            refine ite_0 (fun _ => cnt_congr (fun k hk1 hk2 => ?_))
            simp only [mn, only]
            rw [decide_eq_true (show k / 4 ≠ i by omega)]; simp
          · rw [if_neg hcc]
            have : only i c o (4 * i + c') = false := by
              unfold only
              rw [decide_eq_false (show ¬ (4 * i + c') / 4 ≠ i by omega), decide_eq_false (show ¬ 4 * i + c' = 4 * i + c by omega)]; simp
            rw [this]; rfl
        have : cnt K (r + 1) i (only i c o) = sumN (fun c' => if c' = c then (if o (4 * i + c) = true then cnt K r (i + 1) (mn K (4 * i + c) o) else 0) else 0) 4 := by
          simp only [cnt]
          exact sumN_congr one
        rw [this, sum4]
        rcases (by omega : c = 0 ∨ c = 1 ∨ c = 2 ∨ c = 3) with h | h | h | h <;> subst h <;> simp
      rw [sumN_congr key]
      rfl
    · have key : ∀ c, cnt K (r + 1) s (only i c o) = sumN (fun c' => if o (4 * s + c') = true then cnt K r (s + 1) (only i c (mn K (4 * s + c') o)) else 0) 4 := by
        intro c
        simp only [cnt]
        refine sumN_congr (fun c' hc' => ?_)
        have e : only i c o (4 * s + c') = o (4 * s + c') := by
          unfold only
          rw [decide_eq_true (show (4 * s + c') / 4 ≠ i by omega)]; simp
        rw [e]
        refine ite_0 (fun _ => cnt_congr (fun k _ _ => ?_))
        simp only [mn, only]
        cases o k <;> cases K (4 * s + c') k <;> simp
      have key2 : ∀ c', (if o (4 * s + c') = true then cnt K r (s + 1) (mn K (4 * s + c') o) else 0) = sumN (fun c => if o (4 * s + c') = true then cnt K r (s + 1) (only i c (mn K (4 * s + c') o)) else 0) 4 := by
        intro c'
        by_cases h : o (4 * s + c') = true
        · rw [if_pos h, ih (i := i) (by omega) (by omega)]
          exact sumN_congr (fun c _ => by rw [if_pos h])
        · rw [if_neg h]
          simp [sumN, h]
      have e1 : cnt K (r + 1) s o = sumN (fun c' => sumN (fun c => if o (4 * s + c') = true then cnt K r (s + 1) (only i c (mn K (4 * s + c') o)) else 0) 4) 4 := by
        simp only [cnt]
        exact sumN_congr (fun c' _ => key2 c')
      rw [e1, sumN_congr (fun c _ => key c)]
      simp only [sum4]
      omega
theorem openF {σ : mp_S} (hσ : s_ok σ) {k : Nat} (hk : k < 4 * s_n σ) : bt (bs (pfr σ (ev (s_n σ))) (4 * s_n σ)) k = bt (pF σ 0) k := by
  have hn := hσ.1
  rw [bs_bt _ _ (by omega) k (by omega), pF_bt 0 (by omega), pfr_pfree hk (aw := 0) (fun i hi => by rw [ev_bt hn, b_0, decide_eq_true hi]; rfl) (b_0 _)]
  simp [hk]
theorem openW {σ : mp_S} (hσ : s_ok σ) {i c k : Nat} (hk : k < 4 * s_n σ) : bt (bs (only i c (pfr σ (ev (s_n σ)))) (4 * s_n σ)) k = only i c (bt (pF σ 0)) k := by
  have hn := hσ.1
  rw [bs_bt _ _ (by omega) k (by omega)]
  unfold only
  rw [pF_bt 0 (by omega), pfr_pfree hk (aw := 0) (fun i hi => by rw [ev_bt hn, b_0, decide_eq_true hi]; rfl) (b_0 _)]
  simp [hk]
theorem cnt_small {σ : mp_S} (hσ : s_ok σ) (o : Nat → Bool) : cnt (pcl σ 1) (s_n σ) 0 o < 2 ^ 31 := by
  have h1 := cnt_le (pcl σ 1) (s_n σ) 0 o
  have h2 : 4 ^ s_n σ ≤ 4 ^ 8 := Nat.pow_le_pow_right (by decide) hσ.1
  have h3 : (4 : Nat) ^ 8 = 65536 := by decide
  omega
section
variable {mem : am_Mem} {P : Int32 → am_Mem → Prop} {σ : mp_S}
theorem c5_countFull (hσ : s_ok σ) (hN : mem 1 4 = nI (s_n σ)) (hS : St mem σ (4 * s_n σ)) (h : P (nI (cnt (pcl σ 1) (s_n σ) 0 (bt (pF σ 0)))) mem) : am_Ci m5_countFull 19 [.ref 15] mem P := by
  have hn := hσ.1
  refine am_ci rfl rfl rfl (sg5_countFull_0 (c1_everySite hn hN (c5_freeBoxes hσ hN hS ?_)))
  have := c5_countFrom (K := pcl σ 1) hn hN (hS.K hn) (s_n σ) 0 (16 - s_n σ) (bs (pfr σ (ev (s_n σ))) (4 * s_n σ)) (P := fun r_3 mem_3 => ∃ x, some (Value.int r_3) = some (.int x) ∧ P x mem_3) (by omega) ⟨_, rfl, by rw [cnt_congr (o' := bt (pF σ 0)) (fun k _ h2 => openF hσ (by omega))]; exact h⟩
  rw [show 16 - s_n σ + s_n σ + 2 = 18 by omega] at this
  exact this
theorem c5_countFullWith {i c : Nat} (hσ : s_ok σ) (hN : mem 1 4 = nI (s_n σ)) (hS : St mem σ (4 * s_n σ)) (hi : i < s_n σ) (hc : c < 4) (h : P (nI (cnt (pcl σ 1) (s_n σ) 0 (only i c (bt (pF σ 0))))) mem) : am_Ci m5_countFullWith 19 [.ref 15, .int (nI i), .int (nI c)] mem P := by
  have hn := hσ.1
  refine am_ci rfl rfl rfl (sg5_countFullWith_0 (c5_freeBoxesWith hσ hN hS hi hc ?_))
  have := c5_countFrom (K := pcl σ 1) hn hN (hS.K hn) (s_n σ) 0 (16 - s_n σ) (bs (only i c (pfr σ (ev (s_n σ)))) (4 * s_n σ)) (P := fun r_3 mem_3 => ∃ x, some (Value.int r_3) = some (.int x) ∧ P x mem_3) (by omega) ⟨_, rfl, by rw [cnt_congr (o' := only i c (bt (pF σ 0))) (fun k _ h2 => openW hσ (by omega))]; exact h⟩
  rw [show 16 - s_n σ + s_n σ + 2 = 18 by omega] at this
  exact this
theorem c5_isThereFullWith {i c : Nat} (hσ : s_ok σ) (hN : mem 1 4 = nI (s_n σ)) (hS : St mem σ (4 * s_n σ)) (hi : i < s_n σ) (hc : c < 4) (h : P (bi (decide (0 < cnt (pcl σ 1) (s_n σ) 0 (only i c (bt (pF σ 0)))))) mem) : am_Ci m5_isThereFullWith 19 [.ref 15, .int (nI i), .int (nI c)] mem P := by
  have hn := hσ.1
  refine am_ci rfl rfl rfl (sg5_isThereFullWith_0 (c1_everySite hn hN (c5_freeBoxesWith hσ hN hS hi hc ?_)))
  have e : ful (pcl σ 1) (bt (ev (s_n σ))) (s_n σ) 0 (bt (bs (only i c (pfr σ (ev (s_n σ)))) (4 * s_n σ))) = decide (0 < cnt (pcl σ 1) (s_n σ) 0 (only i c (bt (pF σ 0)))) := by
    rw [ful_cnt (fun i _ h2 => by rw [ev_bt hn, decide_eq_true (by omega)]), cnt_congr (o' := only i c (bt (pF σ 0))) (fun k _ h2 => openW hσ (by omega))]
  have := c5_isFullFrom (K := pcl σ 1) (set := ev (s_n σ)) hn hN (hS.K hn) (s_n σ) 0 (16 - s_n σ) (bs (only i c (pfr σ (ev (s_n σ)))) (4 * s_n σ)) (P := fun r_3 mem_3 => (r_3 = 0 ∨ r_3 = 1) ∧ ∃ x, some (Value.int r_3) = some (.int x) ∧ P x mem_3) (by omega) ⟨bi_01 _, ⟨_, rfl, by rw [e]; exact h⟩⟩
  rw [show 16 - s_n σ + s_n σ + 2 = 18 by omega] at this
  exact this
/-- a set as what is left when others are taken away -/
theorem c5_isThereFull {set aw : Int32} (hσ : s_ok σ) (hN : mem 1 4 = nI (s_n σ)) (hS : St mem σ (4 * s_n σ)) (hset : ∀ i, i < s_n σ → bt set i = !bt aw i) (h : P (bi (ful (pcl σ 1) (fun i => !bt aw i) (s_n σ) 0 (bt (pF σ aw)))) mem) : am_Ci m5_isThereFull 19 [.ref 15, .int set] mem P := by
  have hn := hσ.1
  refine am_ci rfl rfl rfl (sg5_isThereFull_0 (c5_freeBoxes hσ hN hS ?_))
  have e : ful (pcl σ 1) (bt set) (s_n σ) 0 (bt (bs (pfr σ set) (4 * s_n σ))) = ful (pcl σ 1) (fun i => !bt aw i) (s_n σ) 0 (bt (pF σ aw)) := by
    refine ful_set (fun i _ h2 => hset i (by omega)) (fun k _ h2 h3 => ?_)
    rw [bs_bt _ _ (by omega) k (by omega), pF_bt aw (by omega), pfr_pfree (by omega) (aw := aw) hset (by
      have := hset (k / 4) (by omega)
      rw [h3] at this
      cases hb : bt aw (k / 4)
      · rfl
      · rw [hb] at this; exact absurd this (by decide)), decide_eq_true (show k < 4 * s_n σ by omega), Bool.true_and]
  have := c5_isFullFrom (K := pcl σ 1) (set := set) hn hN (hS.K hn) (s_n σ) 0 (16 - s_n σ) (bs (pfr σ set) (4 * s_n σ)) (P := fun r_3 mem_3 => (r_3 = 0 ∨ r_3 = 1) ∧ ∃ x, some (Value.int r_3) = some (.int x) ∧ P x mem_3) (by omega) ⟨bi_01 _, ⟨_, rfl, by rw [e]; exact h⟩⟩
  rw [show 16 - s_n σ + s_n σ + 2 = 18 by omega] at this
  exact this
end
theorem pr_full {mem : am_Mem} {σ : mp_S} (hI : Inv mem σ) : Pr m6_full m7_full [] mem := by
  intro P hP
  have hσ := hI.1
  have hz := hσ.2.2.2.1
  refine am_ci rfl rfl rfl (sg6_full_0 ?_)
  rw [hI.2.1.2.2.1]
  refine c5_study hσ hI.2.1 hz.1 hz.2 (fun m1 s1 _ _ hS => ?_)
  have hS : St m1 σ (4 * s_n σ) := hS
  have hI1 : Inv m1 σ := hI.c (fun a ha => s1 a (by omega))
  refine c5_countFull hσ hI1.2.1.2.2.2.2.1 hS ⟨_, rfl, ?_⟩
  refine am_ci rfl rfl rfl (sg7_full_0 (c7_layFull_0 hσ hI1.2.2 (fun m2 s2 h19 _ => ⟨_, rfl, ?_⟩)))
  rw [h19]
  exact hP _ m2 σ (hI1.m s2)
theorem pr_with {mem : am_Mem} {σ : mp_S} (hI : Inv mem σ) (v w : Int32) : Pr m6_with m7_with [.int v, .int w] mem := by
  intro P hP
  have hσ := hI.1
  have hn := hσ.1
  have hz := hσ.2.2.2.1
  have hN := hI.2.1.2.2.2.2.1
  have hN7 := hI.2.2.1.2.2.1
  rcases sit v (s_n σ) with ⟨i, hi, rfl⟩ | hv
  case inr => exact am_ci rfl rfl rfl (sg6_with_0 (has_f hn hN hv (z00' ⟨_, rfl, am_ci rfl rfl rfl (sg7_with_0 (isS_f hn hN7 hv (z00' ⟨_, rfl, hP _ mem σ hI⟩)))⟩)))
  rcases sit w 4 with ⟨c, hc, rfl⟩ | hw
  case inr => exact am_ci rfl rfl rfl (sg6_with_0 (has_t hn hN hi (z10' (co6_f hw (z00' ⟨_, rfl, am_ci rfl rfl rfl (sg7_with_0 (isS_t hn hN7 hi (z10' (co7_f hw (z00' ⟨_, rfl, hP _ mem σ hI⟩)))))⟩)))))
  refine am_ci rfl rfl rfl (sg6_with_0 (has_t hn hN hi (z10' (co6_t hc (z10' ?_)))))
  rw [hI.2.1.2.2.1]
  refine c5_study hσ hI.2.1 hz.1 hz.2 (fun m1 s1 _ _ hS => ?_)
  have hS : St m1 σ (4 * s_n σ) := hS
  have hI1 : Inv m1 σ := hI.c (fun a ha => s1 a (by omega))
  refine c5_countFullWith hσ hI1.2.1.2.2.2.2.1 hS hi hc ⟨_, rfl, ?_⟩
  refine am_ci rfl rfl rfl (sg7_with_0 (isS_t hn hI1.2.2.1.2.2.1 hi (z10' (co7_t hc (z10' (c7_layFull_0 hσ hI1.2.2 (fun m2 s2 _ h42 => ?_)))))))
  rw [box_nI, nI_clamp (by omega), h42 (4 * i + c) (by omega), show (4 * i + c) / 4 = i by omega, show (4 * i + c) % 4 = c by omega]
  exact ⟨vp_in_nI (by omega) (by omega), ⟨_, rfl, hP _ m2 σ (hI1.m s2)⟩⟩
theorem sure7 {m1 : am_Mem} {P : Int32 → am_Mem → Prop} {σ : mp_S} {i : Nat} (hI1 : Inv m1 σ) (hi : i < s_n σ) (a : Nat → Nat) (T : Nat) (ha : ∀ c, a c = cnt (pcl σ 1) (s_n σ) 0 (only i c (bt (pF σ 0)))) (hT : T = cnt (pcl σ 1) (s_n σ) 0 (bt (pF σ 0)))
    (h0 : ∀ m2, md m1 m2 → T = 0 → P (-9) m2) (hc : ∀ m2, md m1 m2 → 0 < T → ∀ c, c < 4 → a c = T → (∀ c', c' < c → a c' ≠ T) → P (nI c) m2) (hN : ∀ m2, md m1 m2 → 0 < T → (∀ c, c < 4 → a c ≠ T) → P (-9) m2) : am_Ci m7_sure 20 [.ref 30, .int (nI i)] m1 P := by
  have hσ := hI1.1
  have hn := hσ.1
  refine am_ci rfl rfl rfl (sg7_sure_0 (isS_t hn hI1.2.2.1.2.2.1 hi (z10' (c7_layFull_0 hσ hI1.2.2 (fun m2 s2 h19 h42 => ?_)))))
  rw [← hT] at h19 ⊢
  refine ⟨fun q => ?_, fun q => ⟨_, rfl, h0 m2 s2 (by rw [bi_0, decide_eq_false_iff_not] at q; omega)⟩⟩
  rw [bi_n0, decide_eq_true_eq] at q
  have tT : T < 2 ^ 31 := hT ▸ cnt_small hσ _
  have tA : ∀ c, a c < 2 ^ 31 := fun c => ha c ▸ cnt_small hσ _
  have loop : ∀ (r c : Nat), c + r = 4 → (∀ c', c' < c → a c' ≠ T) → am_J m7_sure 20 23 [.ref 30, .int (nI i), .int (nI c)] [] m2 (fun r mem' => ∃ x, r = some (.int x) ∧ P x mem') := by
    intro r
    induction r with
    | zero =>
      intro c hcr hb
      have : c = 4 := by omega
      subst this
      exact sg7_sure_23 ⟨fun _ => ⟨_, rfl, hN m2 s2 q hb⟩, fun q1 => absurd (by decide) q1⟩
    | succ r ih =>
      intro c hcr hb
      refine sg7_sure_23 ⟨fun q1 => absurd q1 (by rw [show (4 : Int32) = nI 4 from rfl, nI_leI (by omega) (by omega)]; omega), fun _ => ?_⟩
      rw [box_nI, nI_clamp (by omega), h42 (4 * i + c) (by omega), show (4 * i + c) / 4 = i by omega, show (4 * i + c) % 4 = c by omega, ← ha c, h19, nI_eq (tA c) tT, nI_1]
      refine ⟨vp_in_nI (by omega) (by omega), fun q1 => ih (c + 1) (by omega) (fun c' hc' => ?_), fun q1 => ⟨_, rfl, hc m2 s2 q c (by omega) q1 hb⟩⟩
      by_cases h : c' = c
      · subst h; exact q1
      · exact hb c' (by omega)
  exact loop 4 0 (by omega) (fun c' hc' => absurd hc' (by omega))
theorem pr_sure {mem : am_Mem} {σ : mp_S} (hI : Inv mem σ) (v : Int32) : Pr m6_sure m7_sure [.int v] mem := by
  intro P hP
  have hσ := hI.1
  have hn := hσ.1
  have hz := hσ.2.2.2.1
  have hN := hI.2.1.2.2.2.2.1
  have hN7 := hI.2.2.1.2.2.1
  rcases sit v (s_n σ) with ⟨i, hi, rfl⟩ | hv
  case inr => exact am_ci rfl rfl rfl (sg6_sure_0 (has_f hn hN hv (z00' ⟨_, rfl, am_ci rfl rfl rfl (sg7_sure_0 (isS_f hn hN7 hv (z00' ⟨_, rfl, hP _ mem σ hI⟩)))⟩)))
  refine am_ci rfl rfl rfl (sg6_sure_0 (has_t hn hN hi (z10' ?_)))
  rw [hI.2.1.2.2.1]
  refine c5_study hσ hI.2.1 hz.1 hz.2 (fun m1 s1 _ _ hS => ?_)
  have hS : St m1 σ (4 * s_n σ) := hS
  have hI1 : Inv m1 σ := hI.c (fun a ha => s1 a (by omega))
  obtain ⟨a, ha⟩ : ∃ a : Nat → Nat, ∀ c, a c = cnt (pcl σ 1) (s_n σ) 0 (only i c (bt (pF σ 0))) := ⟨_, fun _ => rfl⟩
  have hT : a 0 + a 1 + a 2 + a 3 = cnt (pcl σ 1) (s_n σ) 0 (bt (pF σ 0)) := by
    rw [cnt_sum (i := i) (by omega) (by omega), sum4, ha, ha, ha, ha]
  have le : ∀ c, c < 4 → a c ≤ a 0 + a 1 + a 2 + a 3 := fun c hc => by
    rcases (by omega : c = 0 ∨ c = 1 ∨ c = 2 ∨ c = 3) with h | h | h | h <;> subst h <;> omega
  have le2 : ∀ c c', c < 4 → c' < 4 → c ≠ c' → a c + a c' ≤ a 0 + a 1 + a 2 + a 3 := fun c c' hc hc' hne => by
    rcases (by omega : c = 0 ∨ c = 1 ∨ c = 2 ∨ c = 3) with h | h | h | h <;> subst h <;> rcases (by omega : c' = 0 ∨ c' = 1 ∨ c' = 2 ∨ c' = 3) with h' | h' | h' | h' <;> subst h' <;> first | exact absurd rfl hne | omega
  have all0 : (∀ c, c < 4 → a c = 0) → a 0 + a 1 + a 2 + a 3 = 0 := fun h => by
    have := h 0 (by omega); have := h 1 (by omega); have := h 2 (by omega); have := h 3 (by omega); omega
  have un1 : ∀ j, j < 4 → (∀ c, c < 4 → c ≠ j → a c = 0) → a 0 + a 1 + a 2 + a 3 = a j := fun j hj h => by
    rcases (by omega : j = 0 ∨ j = 1 ∨ j = 2 ∨ j = 3) with e | e | e | e <;> subst e
    · have := h 1 (by omega) (by omega); have := h 2 (by omega) (by omega); have := h 3 (by omega) (by omega); omega
    · have := h 0 (by omega) (by omega); have := h 2 (by omega) (by omega); have := h 3 (by omega) (by omega); omega
    · have := h 0 (by omega) (by omega); have := h 1 (by omega) (by omega); have := h 3 (by omega) (by omega); omega
    · have := h 0 (by omega) (by omega); have := h 1 (by omega) (by omega); have := h 2 (by omega) (by omega); omega
  -- what the reference then says
  have rNone : (∀ c, c < 4 → a c = 0) → am_Ci m7_sure 20 [.ref 30, .int (nI i)] m1 (fun r2 mem2 => P (-9) r2 mem2) := fun h =>
    sure7 hI1 hi a _ ha hT (fun m2 s2 _ => hP _ m2 σ (hI1.m s2)) (fun m2 s2 h1 => absurd (all0 h) (by omega)) (fun m2 s2 h1 => absurd (all0 h) (by omega))
  have rOne : ∀ j, j < 4 → 0 < a j → (∀ c, c < 4 → c ≠ j → a c = 0) → am_Ci m7_sure 20 [.ref 30, .int (nI i)] m1 (fun r2 mem2 => P (nI j) r2 mem2) := fun j hj hpos h =>
    sure7 hI1 hi a _ ha hT (fun m2 s2 h1 => absurd (un1 j hj h) (by omega)) (fun m2 s2 _ c hc he _ => by
      have : c = j := by
        apply Classical.byContradiction
        intro hne
        have := h c hc hne
        have := un1 j hj h
        omega
      rw [this]; exact hP _ m2 σ (hI1.m s2)) (fun m2 s2 _ h1 => absurd (un1 j hj h).symm (h1 j hj))
  have rTwo : ∀ j k, j < 4 → k < 4 → j ≠ k → 0 < a j → 0 < a k → am_Ci m7_sure 20 [.ref 30, .int (nI i)] m1 (fun r2 mem2 => P (-9) r2 mem2) := fun j k hj hk hne pj pk =>
    sure7 hI1 hi a _ ha hT (fun m2 s2 h1 => absurd (le j hj) (by omega)) (fun m2 s2 _ c hc he _ => by
      by_cases hcj : c = j
      · have := le2 c k hc hk (by omega); omega
      · have := le2 c j hc hj hcj; omega) (fun m2 s2 _ _ => hP _ m2 σ (hI1.m s2))
  have loop : ∀ (r c : Nat) (v2 : Int32), c + r = 4 → ((v2 = -9 ∧ ∀ c', c' < c → a c' = 0) ∨ ∃ j, j < c ∧ v2 = nI j ∧ 0 < a j ∧ ∀ c', c' < c → c' ≠ j → a c' = 0) → am_J m6_sure 20 32 [.ref 0, .int (nI i), .int v2, .int (nI c)] [] m1 (fun r mem' => ∃ x, r = some (.int x) ∧ am_Ci m7_sure 20 [.ref 30, .int (nI i)] mem' (fun r2 mem2 => P x r2 mem2)) := by
    intro r
    induction r with
    | zero =>
      intro c v2 hc hv
      have : c = 4 := by omega
      subst this
      refine sg6_sure_32 ⟨fun _ => ⟨_, rfl, ?_⟩, fun q => absurd (by decide) q⟩
      rcases hv with ⟨rfl, h⟩ | ⟨j, hj, rfl, hpos, h⟩
      · exact rNone h
      · exact rOne j hj hpos h
    | succ r ih =>
      intro c v2 hc hv
      refine sg6_sure_32 ⟨fun q => absurd q (by rw [show (4 : Int32) = nI 4 from rfl, nI_leI (by omega) (by omega)]; omega), fun _ => ?_⟩
      refine c5_isThereFullWith hσ hI1.2.1.2.2.2.2.1 hS hi (by omega) ?_
      rw [← ha c]
      refine ⟨fun q => sg6_sure_60 ?_, fun q => ⟨fun q1 => sg6_sure_60 ?_, fun q1 => ⟨_, rfl, ?_⟩⟩⟩
      · rw [bi_0, decide_eq_false_iff_not] at q
        rw [nI_1]
        refine ih (c + 1) v2 (by omega) ?_
        rcases hv with ⟨rfl, h⟩ | ⟨j, hj, rfl, hpos, h⟩
        · refine Or.inl ⟨rfl, fun c' hc' => ?_⟩
          by_cases he : c' = c
          · subst he; omega
          · exact h c' (by omega)
        · refine Or.inr ⟨j, by omega, rfl, hpos, fun c' hc' hne => ?_⟩
          by_cases he : c' = c
          · subst he; omega
          · exact h c' (by omega) hne
      · rw [bi_n0, decide_eq_true_eq] at q
        rw [nI_1]
        refine ih (c + 1) (nI c) (by omega) (Or.inr ⟨c, by omega, rfl, q, fun c' hc' hne => ?_⟩)
        rcases hv with ⟨-, h⟩ | ⟨j, hj, e, hpos, h⟩
        · exact h c' (by omega)
        · rw [e] at q1
          exact absurd q1 ((by decide +kernel : ∀ j, j < 4 → nI j ≠ -9) j (by omega))
      · rw [bi_n0, decide_eq_true_eq] at q
        rcases hv with ⟨e, h⟩ | ⟨j, hj, e, hpos, h⟩
        · exact absurd e q1
        · exact rTwo j c (by omega) (by omega) (by omega) hpos q
  exact loop 4 0 (-9) (by omega) (Or.inl ⟨rfl, fun c' hc' => absurd hc' (by omega)⟩)
