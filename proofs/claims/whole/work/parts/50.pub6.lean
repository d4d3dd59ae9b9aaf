/-- the greatest of v SIZES at which there is a FULL LAYOUT -/
def gr (g : Nat → Bool) : Nat → Int32
  | 0 => -9
  | v + 1 => if g (v + 1) = true then nI (v + 1) else gr g v
theorem Mo.sz {m : am_Mem} {σ : mp_S} {w : Int} {z : Int} {aw : Int32} (h : Mo m (s_sz σ w) z aw) (v : Int) : Mo (am_set m 30 10 (iz v)) (s_sz σ v) z aw := by
  refine ⟨⟨?_, ?_, ?_, ?_, ?_, ?_, ?_⟩, fun i hi => ?_⟩
  · rw [am_set_nj _ _ (by decide)]; exact h.1.1
  · rw [am_set_nj _ _ (by decide)]; exact h.1.2.1
  · rw [am_set_nj _ _ (by decide)]; exact h.1.2.2.1
  · rw [am_set_eq]; rfl
  · rw [am_set_nj _ _ (by decide)]; exact h.1.2.2.2.2.1
  · rw [am_set_nj _ _ (by decide)]; exact h.1.2.2.2.2.2.1
  · rw [am_set_nj _ _ (by decide)]; exact h.1.2.2.2.2.2.2
  · rw [am_set_na _ _ (by decide), am_set_na _ _ (by decide), am_set_na _ _ (by decide), am_set_na _ _ (by decide), am_set_na _ _ (by decide), am_set_na _ _ (by decide), am_set_na _ _ (by decide)]
    exact h.2 i hi
theorem nI_n9 : ∀ j, j ≤ 40 → nI j ≠ -9 := fun j hj => (by decide +kernel : ∀ j, j < 41 → nI j ≠ -9) j (by omega)
theorem pr_greatest {mem : am_Mem} {σ : mp_S} (hI : Inv mem σ) : Pr m6_greatest m7_greatest [] mem := by
  intro P hP
  have hσ := hI.1
  have hn := hσ.1
  have hz := hσ.2.2.2.1
  obtain ⟨g, hg⟩ : ∃ g : Nat → Bool, ∀ v : Nat, g v = ful (pcl (s_sz σ v) 1) (fun i => !bt 0 i) (s_n σ) 0 (bt (pF (s_sz σ v) 0)) := ⟨_, fun _ => rfl⟩
  -- the reference
  have mod : ∀ m1, Inv m1 σ → am_Ci m7_greatest 20 [.ref 30] m1 (fun r2 mem2 => P (gr g 40) r2 mem2) := by
    intro m1 hI1
    have fin : ∀ (m : am_Mem) (w : Int), (∀ a, a < 30 → m a = m1 a) → Mo m (s_sz σ w) 1 0 → Inv (am_set m 30 10 (iz (s_z σ))) σ := by
      intro m w hm hMw
      have := hMw.sz (s_z σ)
      exact ⟨hσ, hI1.2.1.keep (fun a ha => by rw [am_set_na _ _ (by omega)]; exact hm a (by omega)), this⟩
    have loop : ∀ (v : Nat) (m : am_Mem) (w : Int), v ≤ 40 → (∀ a, a < 30 → m a = m1 a) → Mo m (s_sz σ w) 1 0 → gr g v = gr g 40 → am_J m7_greatest 20 11 [.ref 30, .int (iz (s_z σ)), .int (-9), .int (nI v)] [] m (fun r mem' => ∃ x, r = some (.int x) ∧ P (gr g 40) x mem') := by
      intro v
      induction v with
      | zero =>
        intro m w _ hm hMw he
        refine sg7_greatest_11 ⟨fun _ => ⟨_, rfl, ?_⟩, fun q => absurd (by decide) q⟩
        rw [← he]
        exact hP _ _ σ (fin m w hm hMw)
      | succ v ih =>
        intro m w hv hm hMw he
        refine sg7_greatest_11 ⟨fun q => absurd q (nI_nle (by omega) (by omega)), fun _ => ⟨fun q => absurd rfl q, fun _ => ?_⟩⟩
        rw [iz_nI]
        have hM2 : Mo (am_set m 30 10 (iz ((v + 1 : Nat) : Int))) (s_sz σ ((v + 1 : Nat) : Int)) 1 0 := hMw.sz _
        refine c7_layFull_1 (σ := s_sz σ ((v + 1 : Nat) : Int)) (s_ok_sz hσ (by omega) (by omega)) hM2 (fun m2 s2 => ?_)
        have e : ful (pcl (s_sz σ ((v + 1 : Nat) : Int)) 1) (fun i => !bt 0 i) (s_n (s_sz σ ((v + 1 : Nat) : Int))) 0 (bt (pF (s_sz σ ((v + 1 : Nat) : Int)) 0)) = g (v + 1) := (hg (v + 1)).symm
        rw [e]
        have hm2 : ∀ a, a < 30 → m2 a = m1 a := fun a ha => by rw [s2.1 a (by omega) (by omega), am_set_na _ _ (by omega)]; exact hm a ha
        have hMm2 : Mo m2 (s_sz σ ((v + 1 : Nat) : Int)) 1 0 := hM2.md s2
        refine bi_ite (fun q => sg7_greatest_40 ?_) (fun q => sg7_greatest_40 ?_)
        · rw [← iz_nI, pk_m1]
          have e2 : gr g (v + 1) = gr g v := by simp only [gr]; rw [if_neg (by rw [q]; decide)]
          exact ih m2 _ (by omega) hm2 hMm2 (by rw [← he, e2])
        · rw [← iz_nI, pk_m1]
          have e2 : gr g (v + 1) = nI (v + 1) := by simp only [gr]; rw [if_pos q]
          have stop : P (gr g 40) (nI (v + 1)) (am_set m2 30 10 (iz (s_z σ))) := by
            rw [← he, e2]
            exact hP _ _ σ (fin m2 _ hm2 hMm2)
          by_cases h0 : v = 0
          · subst h0
            exact sg7_greatest_11 ⟨fun _ => ⟨_, rfl, stop⟩, fun q1 => absurd (by decide) q1⟩
          · exact sg7_greatest_11 ⟨fun q1 => absurd q1 (nI_nle (by omega) (by omega)), fun _ => ⟨fun _ => ⟨_, rfl, stop⟩, fun q1 => absurd q1 (nI_n9 _ (by omega))⟩⟩
    refine am_ci rfl rfl rfl (sg7_greatest_0 ?_)
    rw [hI1.2.2.1.2.2.2.1]
    exact loop 40 m1 (s_z σ) (by omega) (fun _ _ => rfl) hI1.2.2 rfl
  -- the class
  have loop : ∀ (v : Nat) (m : am_Mem), v ≤ 40 → sm 8 18 mem m → gr g v = gr g 40 → am_J m6_greatest 20 3 [.ref 0, .int (nI v)] [] m (fun r mem' => ∃ x, r = some (.int x) ∧ am_Ci m7_greatest 20 [.ref 30] mem' (fun r2 mem2 => P x r2 mem2)) := by
    intro v
    induction v with
    | zero =>
      intro m _ hm he
      refine sg6_greatest_3 ⟨fun _ => ⟨_, rfl, ?_⟩, fun q => absurd (by decide) q⟩
      have := mod m (hI.c (fun a ha => hm a (by omega)))
      rw [← he] at this
      exact this
    | succ v ih =>
      intro m hv hm he
      have hIm : Inv m σ := hI.c (fun a ha => hm a (by omega))
      refine sg6_greatest_3 ⟨fun q => absurd q (by rw [show (1 : Int32) = nI 1 from rfl]; exact nI_nlt (by omega) (by omega)), fun _ => ?_⟩
      rw [iz_nI]
      refine c5_study (sz := ((v + 1 : Nat) : Int)) hσ hIm.2.1 (by omega) (by omega) (fun m1 s1 _ _ hS => ?_)
      have hI1 : Inv m1 σ := hIm.c (fun a ha => s1 a (by omega))
      have hN1 := hI1.2.1.2.2.2.2.1
      refine c1_everySite hn hN1 (c5_isThereFull (σ := s_sz σ ((v + 1 : Nat) : Int)) (aw := 0) (s_ok_sz hσ (by omega) (by omega)) hN1 hS (fun i hi => ?_) ?_)
      · have hi : i < s_n σ := hi
        rw [ev_bt hn, b_0, decide_eq_true hi]; rfl
      have e : ful (pcl (s_sz σ ((v + 1 : Nat) : Int)) 1) (fun i => !bt 0 i) (s_n (s_sz σ ((v + 1 : Nat) : Int))) 0 (bt (pF (s_sz σ ((v + 1 : Nat) : Int)) 0)) = g (v + 1) := (hg (v + 1)).symm
      rw [e]
      refine bi_ite (fun q => ?_) (fun q => ⟨_, rfl, ?_⟩)
      · rw [← iz_nI, pk_m1]
        have e2 : gr g (v + 1) = gr g v := by simp only [gr]; rw [if_neg (by rw [q]; decide)]
        exact ih m1 (by omega) (sm_tr hm s1) (by rw [← he, e2])
      · have e2 : gr g (v + 1) = nI (v + 1) := by simp only [gr]; rw [if_pos q]
        have := mod m1 hI1
        rw [← he, e2, iz_nI] at this
        exact this
  exact am_ci rfl rfl rfl (sg6_greatest_0 (loop 40 mem (by omega) (sm_rf _ _ _) rfl))
/-! the least WORTH that must be left out -/
def lst (w : Nat → Int) (ok : Nat → Bool) (t : Nat) (a : Int) : Int := if w t < a then (if ok t = true then w t else a) else a
theorem lst_low (w : Nat → Int) (ok : Nat → Bool) : ∀ (r t : Nat) (a : Int), tlB (lst w ok) r t a ≤ a ∧ (∀ s, t ≤ s → s < t + r → ok s = true → tlB (lst w ok) r t a ≤ w s) ∧ (tlB (lst w ok) r t a = a ∨ ∃ s, t ≤ s ∧ s < t + r ∧ ok s = true ∧ tlB (lst w ok) r t a = w s) := by
  intro r
  induction r with
  | zero => intro t a; exact ⟨Int.le_refl _, fun s h1 h2 => absurd h2 (by omega), Or.inl rfl⟩
  | succ r ih =>
    intro t a
    simp only [tlB]
    obtain ⟨h1, h2, h3⟩ := ih (t + 1) (lst w ok t a)
    have hl : lst w ok t a ≤ a ∧ (ok t = true → lst w ok t a ≤ w t) ∧ (lst w ok t a = a ∨ (ok t = true ∧ lst w ok t a = w t)) := by
      unfold lst
      by_cases c1 : w t < a
      · rw [if_pos c1]
        by_cases c2 : ok t = true
        · rw [if_pos c2]; exact ⟨by omega, fun _ => Int.le_refl _, Or.inr ⟨c2, rfl⟩⟩
        · rw [if_neg c2]; exact ⟨Int.le_refl _, fun q => absurd q c2, Or.inl rfl⟩
      · rw [if_neg c1]; exact ⟨Int.le_refl _, fun _ => by omega, Or.inl rfl⟩
    refine ⟨Int.le_trans h1 hl.1, fun s hs1 hs2 hok => ?_, ?_⟩
    · by_cases hst : s = t
      · subst hst; exact Int.le_trans h1 (hl.2.1 hok)
      · exact h2 s (by omega) (by omega) hok
    · rcases h3 with h3 | ⟨s, s1, s2, s3, s4⟩
      · rcases hl.2.2 with h4 | ⟨h4, h5⟩
        · exact Or.inl (by rw [h3]; exact h4)
        · exact Or.inr ⟨t, by omega, by omega, h4, by rw [h3]; exact h5⟩
      · exact Or.inr ⟨s, by omega, by omega, s3, s4⟩
theorem lst_eq {w : Nat → Int} {ok : Nat → Bool} {N L : Nat} {b : Int} (hL : L < N) (hok : ok L = true) (hb : w L < b) : tlB (lst w ok) N 0 (w L) = tlB (lst w ok) N 0 b := by
  obtain ⟨a1, a2, a3⟩ := lst_low w ok N 0 (w L)
  obtain ⟨b1, b2, b3⟩ := lst_low w ok N 0 b
  have c1 := b2 L (by omega) (by omega) hok
  have x1 : tlB (lst w ok) N 0 (w L) ≤ tlB (lst w ok) N 0 b := by
    rcases b3 with h | ⟨s, s1, s2, s3, s4⟩
    · omega
    · rw [s4]; exact a2 s s1 s2 s3
  have x2 : tlB (lst w ok) N 0 b ≤ tlB (lst w ok) N 0 (w L) := by
    rcases a3 with h | ⟨s, s1, s2, s3, s4⟩
    · rw [h]; exact c1
    · rw [s4]; exact b2 s s1 s2 s3
  omega
theorem ful_none {K : Nat → Nat → Bool} {set : Nat → Bool} : ∀ {r s : Nat} {o : Nat → Bool}, (∀ i, s ≤ i → i < s + r → set i = false) → ful K set r s o = true := by
  intro r
  induction r with
  | zero => intro s o _; rfl
  | succ r ih =>
    intro s o h
    simp only [ful]
    rw [if_neg (by rw [h s (by omega) (by omega)]; decide)]
    exact ih (fun i h1 h2 => h i (by omega) (by omega))
theorem ev_nI : ∀ n, n ≤ 8 → ev n = nI (2 ^ n - 1) := fun n hn => (by decide +kernel : ∀ n, n < 9 → ev n = nI (2 ^ n - 1)) n (by omega)
theorem shl_nI : ∀ n, n ≤ 8 → ((1 : Int32) <<< (nI n &&& 31)) = nI (2 ^ n) := fun n hn => (by decide +kernel : ∀ n, n < 9 → ((1 : Int32) <<< (nI n &&& 31)) = nI (2 ^ n)) n (by omega)
theorem Mo.aw {m : am_Mem} {σ : mp_S} {z : Int} {aw : Int32} (h : Mo m σ z aw) (v : Int32) : Mo (am_set m 30 13 v) σ z v := by
  refine ⟨⟨?_, ?_, ?_, ?_, ?_, ?_, ?_⟩, fun i hi => ?_⟩
  · rw [am_set_nj _ _ (by decide)]; exact h.1.1
  · rw [am_set_nj _ _ (by decide)]; exact h.1.2.1
  · rw [am_set_nj _ _ (by decide)]; exact h.1.2.2.1
  · rw [am_set_nj _ _ (by decide)]; exact h.1.2.2.2.1
  · rw [am_set_nj _ _ (by decide)]; exact h.1.2.2.2.2.1
  · rw [am_set_nj _ _ (by decide)]; exact h.1.2.2.2.2.2.1
  · rw [am_set_eq]
  · rw [am_set_na _ _ (by decide), am_set_na _ _ (by decide), am_set_na _ _ (by decide), am_set_na _ _ (by decide), am_set_na _ _ (by decide), am_set_na _ _ (by decide), am_set_na _ _ (by decide)]
    exact h.2 i hi
theorem pr_least {mem : am_Mem} {σ : mp_S} (hI : Inv mem σ) : Pr m6_least m7_least [] mem := by
  intro P hP
  have hσ := hI.1
  have hn := hσ.1
  have hz := hσ.2.2.2.1
  have hwo : ∀ i, i < s_n σ → 1 ≤ s_wo σ i ∧ s_wo σ i ≤ 99 := fun i hi => (hσ.2.2.2.2.2 i hi).2.2.2.2.1
  have hp : 2 ^ s_n σ ≤ 256 := Nat.le_trans (Nat.pow_le_pow_right (by omega) hn) (by decide)
  have hp0 : 0 < 2 ^ s_n σ := Nat.pow_pos (by decide)
  obtain ⟨w, hw⟩ : ∃ w : Nat → Int, ∀ t, w t = wsum (s_wo σ) (bt (nI t)) (s_n σ) := ⟨_, fun _ => rfl⟩
  obtain ⟨ok, hok⟩ : ∃ ok : Nat → Bool, ∀ t, ok t = ful (pcl σ 1) (fun i => !bt (nI t) i) (s_n σ) 0 (bt (pF σ (nI t))) := ⟨_, fun _ => rfl⟩
  have wr : ∀ t, 0 ≤ w t ∧ w t ≤ 792 := fun t => by
    have := wsum_rng (w := s_wo σ) (s := bt (nI t)) (k := s_n σ) hwo
    rw [hw t]; omega
  have lr : ∀ t a, (0 ≤ a ∧ a ≤ 10000) → (0 ≤ lst w ok t a ∧ lst w ok t a ≤ 10000) := fun t a ha => by
    have := wr t
    unfold lst
    split
    · split <;> omega
    · exact ha
  obtain ⟨R, hR⟩ : ∃ R, R = tlB (lst w ok) (2 ^ s_n σ) 0 10000 := ⟨_, rfl⟩
  -- the reference
  have mod : ∀ m1, Inv m1 σ → am_Ci m7_least 20 [.ref 30] m1 (fun r2 mem2 => P (iz R) r2 mem2) := by
    intro m1 hI1
    have loop : ∀ (r t : Nat) (m : am_Mem) (aw : Int32) (a : Int), t + r = 2 ^ s_n σ → (∀ b, b < 30 → m b = m1 b) → Mo m σ 1 aw → (0 ≤ a ∧ a ≤ 10000) → tlB (lst w ok) r t a = R → am_J m7_least 20 6 [.ref 30, .int (iz a), .int (nI t), .null, .null] [] m (fun r mem' => ∃ x, r = some (.int x) ∧ P (iz R) x mem') := by
      intro r
      induction r with
      | zero =>
        intro t m aw a ht hm hMm ha he
        have : t = 2 ^ s_n σ := by omega
        subst this
        refine sg7_least_6 ⟨fun _ => ⟨_, rfl, ?_⟩, fun q => absurd (by rw [hMm.1.2.2.1, shl_nI _ hn]; exact Int32.le_refl _) q⟩
        have he : a = R := he
        rw [← he]
        exact hP _ _ σ ⟨hσ, hI1.2.1.keep (fun b hb => by rw [am_set_na _ _ (by omega)]; exact hm b (by omega)), hMm.aw 0⟩
      | succ r ih =>
        intro t m aw a ht hm hMm ha he
        simp only [tlB] at he
        have la := lr t a ha
        have nxt : ∀ m2 aw2, (∀ b, b < 30 → m2 b = m1 b) → Mo m2 σ 1 aw2 → am_J m7_least 20 6 [.ref 30, .int (iz (lst w ok t a)), .int (nI (t + 1)), .null, .null] [] m2 (fun r mem' => ∃ x, r = some (.int x) ∧ P (iz R) x mem') := fun m2 aw2 h1 h2 => ih (t + 1) m2 aw2 _ (by omega) h1 h2 la he
        refine sg7_least_6 ⟨fun q => absurd q (by rw [hMm.1.2.2.1, shl_nI _ hn, nI_leI (by omega) (by omega)]; omega), fun _ => ?_⟩
        have sums : ∀ (r2 i : Nat), i + r2 = s_n σ → am_J m7_least 20 21 [.ref 30, .int (iz a), .int (nI t), .int (iz (wsum (s_wo σ) (bt (nI t)) i)), .int (nI i)] [] m (fun r mem' => ∃ x, r = some (.int x) ∧ P (iz R) x mem') := by
          intro r2
          induction r2 with
          | zero =>
            intro i hi
            have : i = s_n σ := by omega
            subst this
            rw [← hw t]
            have wt := wr t
            refine sg7_least_21 ⟨fun _ => ?_, fun q => absurd (by rw [hMm.1.2.2.1]; exact Int32.le_refl _) q⟩
            rw [iz_le (by omega) (by omega) (by omega) (by omega)]
            have hm13 : ∀ b, b < 30 → (am_set m 30 13 (nI t)) b = m1 b := fun b hb => by rw [am_set_na _ _ (by omega)]; exact hm b hb
            refine ⟨fun q => sg7_least_82 (sg7_least_83 ?_), fun q => ?_⟩
            · have e : lst w ok t a = a := by unfold lst; rw [if_neg (by omega)]
              have := nxt _ _ hm13 (hMm.aw (nI t))
              rw [e] at this
              rw [nI_1]; exact this
            · refine c7_layFull_1 (aw := nI t) hσ (hMm.aw (nI t)) (fun m2 s2 => ?_)
              rw [← hok t]
              have hm2 : ∀ b, b < 30 → m2 b = m1 b := fun b hb => by rw [s2.1 b (by omega) (by omega)]; exact hm13 b hb
              have := nxt m2 _ hm2 ((hMm.aw (nI t)).md s2)
              refine bi_ite (fun q1 => sg7_least_82 (sg7_least_83 ?_)) (fun q1 => sg7_least_83 ?_)
              · have e : lst w ok t a = a := by unfold lst; rw [if_pos (by omega), if_neg (by rw [q1]; decide)]
                rw [e] at this
                rw [nI_1]; exact this
              · have e : lst w ok t a = w t := by unfold lst; rw [if_pos (by omega), if_pos q1]
                rw [e] at this
                rw [nI_1]; exact this
          | succ r2 ih2 =>
            intro i hi
            have n2 := ih2 (i + 1) (by omega)
            refine sg7_least_21 ⟨fun q => absurd q (by rw [hMm.1.2.2.1, nI_leI (by omega) (by omega)]; omega), fun _ => ?_⟩
            rw [bit_s (nI t) i (by omega), bi_1]
            refine ⟨fun q => sg7_least_52 ?_, fun q => ⟨vp_in_nI (by omega) (by omega), sg7_least_52 ?_⟩⟩
            · simp only [wsum, if_neg q, Int.add_zero] at n2
              rw [Int32.add_zero, nI_1]; exact n2
            · simp only [wsum, if_pos q] at n2
              rw [nI_clamp (by omega), (hMm.2 i (by omega)).2.2.2.2.1, iz_add, nI_1]; exact n2
        exact sums (s_n σ) 0 (by omega)
    exact am_ci rfl rfl rfl (sg7_least_0 (loop (2 ^ s_n σ) 0 m1 0 10000 (by omega) (fun _ _ => rfl) hI1.2.2 (by omega) hR.symm))
  -- the class
  have hL : ok (2 ^ s_n σ - 1) = true := by
    rw [hok, ← ev_nI _ hn]
    exact ful_none (fun i _ h2 => by rw [ev_bt hn, decide_eq_true (by omega)]; rfl)
  have hRL : tlB (lst w ok) (2 ^ s_n σ) 0 (w (2 ^ s_n σ - 1)) = R := by
    rw [hR]
    exact lst_eq (by omega) hL (by have := wr (2 ^ s_n σ - 1); omega)
  refine am_ci rfl rfl rfl (sg6_least_0 ?_)
  rw [hI.2.1.2.2.1]
  refine c5_study hσ hI.2.1 hz.1 hz.2 (fun m1 s1 _ _ hS => ?_)
  have hS : St m1 σ (4 * s_n σ) := hS
  have hI1 : Inv m1 σ := hI.c (fun a ha => s1 a (by omega))
  have hN1 := hI1.2.1.2.2.2.2.1
  have hW1 : ∀ i, i < s_n σ → m1 6 i = iz (s_wo σ i) := fun i hi => (hI1.2.1.2.2.2.2.2 i hi).2.2.2.2.1
  refine c1_everySite hn hN1 (c1_worthOf (w := s_wo σ) hn hN1 hW1 ?_)
  rw [ev_nI _ hn, ← hw]
  have loop : ∀ (r t : Nat) (a : Int), t + r = 2 ^ s_n σ → (0 ≤ a ∧ a ≤ 10000) → tlB (lst w ok) r t a = R → am_J m6_least 20 33 [.ref 0, .int (nI (2 ^ s_n σ - 1)), .int (iz a), .int (nI t), .null] [] m1 (fun r mem' => ∃ x, r = some (.int x) ∧ am_Ci m7_least 20 [.ref 30] mem' (fun r2 mem2 => P x r2 mem2)) := by
    intro r
    induction r with
    | zero =>
      intro t a ht ha he
      have : t = 2 ^ s_n σ := by omega
      subst this
      refine sg6_least_33 ⟨fun _ => ⟨_, rfl, ?_⟩, fun q => absurd (nI_lt (by omega) (by omega)) q⟩
      have he : a = R := he
      rw [he]
      exact mod m1 hI1
    | succ r ih =>
      intro t a ht ha he
      simp only [tlB] at he
      have la := lr t a ha
      have wt := wr t
      have nxt := ih (t + 1) _ (by omega) la he
      refine sg6_least_33 ⟨fun q => absurd q (nI_nlt (by omega) (by omega)), fun _ => c1_worthOf (w := s_wo σ) hn hN1 hW1 ?_⟩
      rw [← hw t, iz_le (by omega) (by omega) (by omega) (by omega)]
      refine ⟨fun q => sg6_least_72 ?_, fun q => ?_⟩
      · have e : lst w ok t a = a := by unfold lst; rw [if_neg (by omega)]
        rw [e] at nxt
        rw [nI_1]; exact nxt
      · refine c5_isThereFull (aw := nI t) hσ hN1 hS (fun i hi => ?_) ?_
        · rw [← ev_nI _ hn, bt_left _ _ (by omega), ev_bt hn, decide_eq_true hi]; simp
        · rw [← hok t]
          refine bi_ite (fun q1 => sg6_least_72 ?_) (fun q1 => sg6_least_72 ?_)
          · have e : lst w ok t a = a := by unfold lst; rw [if_pos (by omega), if_neg (by rw [q1]; decide)]
            rw [e] at nxt
            rw [nI_1]; exact nxt
          · have e : lst w ok t a = w t := by unfold lst; rw [if_pos (by omega), if_pos q1]
            rw [e] at nxt
            rw [nI_1]; exact nxt
  exact loop (2 ^ s_n σ) 0 _ (by omega) (by have := wr (2 ^ s_n σ - 1); omega) hRL
