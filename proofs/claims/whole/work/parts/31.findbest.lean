theorem pfr_pfree {σ : mp_S} {set aw : Int32} {k : Nat} (hk : k < 4 * s_n σ) (hset : ∀ i, i < s_n σ → bt set i = !bt aw i) (ha : bt aw (k / 4) = false) : pfr σ set k = pfree σ 1 (bt aw) k := by
  unfold pfr pfree g_free
  rw [hset (k / 4) (by omega), ha, decide_eq_true (show k / 4 < s_n σ by omega)]
  simp only [Bool.not_false, Bool.true_and]
  congr 1
  rw [Bool.eq_iff_iff, List.all_eq_true, List.all_eq_true]
  constructor
  · intro h o ho
    have := h o ho
    rw [hset o (List.mem_range.mp ho)] at this
    simpa using this
  · intro h o ho
    have := h o ho
    rw [hset o (List.mem_range.mp ho)]
    simpa using this
theorem pF_bt {σ : mp_S} (aw : Int32) {k : Nat} (hk : k < 32) : bt (pF σ aw) k = pfree σ 1 (bt aw) k := by
  unfold pF; rw [bs_bt _ 32 (by omega) k hk]; simp [hk]
theorem St.K {mem : am_Mem} {σ : mp_S} (hn : s_n σ ≤ 8) (h : St mem σ (4 * s_n σ)) : ∀ k, k < 4 * s_n σ → ∀ b, b < 32 → bt (mem 17 k) b = pcl σ 1 k b := by
  intro k hk b hb
  rw [(h.2 k hk).2, bs_bt _ _ (by omega) b hb]
  by_cases hbn : b < 4 * s_n σ
  · simp [hbn]
  · have : pcl σ 1 k b = false := by unfold pcl; rw [decide_eq_false (by omega)]; rfl
    rw [this]; simp
theorem wsum_rem (w : Nat → Int) (s : Nat → Bool) : ∀ (r k : Nat), (∀ i, k ≤ i → i < k + r → s i = true) → wsum w s (k + r) = wsum w s k + rem w r k := by
  intro r
  induction r with
  | zero => intro k _; simp [rem]
  | succ r ih =>
    intro k h
    have e := ih (k + 1) (fun i h1 h2 => h i (by omega) (by omega))
    rw [show k + (r + 1) = k + 1 + r by omega, e]
    simp only [wsum, rem, h k (by omega) (by omega), if_true]; omega
/-- THE BEST LAYOUT of THE MAP -/
def Bst (σ : mp_S) : Bs := bst (pcl σ 1) (s_wo σ) (s_n σ) 0 (bt (pF σ 0)) (fun _ => 0) 0 (-1, fun _ => 0)
theorem Bst_0 {σ : mp_S} (hσ : s_ok σ) : 0 ≤ (Bst σ).1 ∧ (Bst σ).1 ≤ 792 := by
  have hwo : ∀ i, i < s_n σ → 1 ≤ s_wo σ i ∧ s_wo σ i ≤ 99 := fun i hi => (hσ.2.2.2.2.2 i hi).2.2.2.2.1
  have h1 := bst_rng (K := pcl σ 1) (wo := s_wo σ) (n := s_n σ) (r := s_n σ) (s := 0) (o := bt (pF σ 0)) (row := fun _ => 0) (w := 0) (b := (-1, fun _ => 0)) hσ.1 (by omega) hwo (by omega) (by simp)
  have h2 := (bst_val (K := pcl σ 1) (wo := s_wo σ) (r := s_n σ) (s := 0) (o := bt (pF σ 0)) (row := fun _ => 0) (w := 0) (b := (-1, fun _ => 0)) (fun i _ h => (hwo i (by omega)).1)).1
  have h3 := mx_0 (K := pcl σ 1) (wo := s_wo σ) (r := s_n σ) (s := 0) (o := bt (pF σ 0))
  refine ⟨?_, h1.2⟩
  show 0 ≤ (bst _ _ _ _ _ _ _ _).1
  rw [h2]; unfold imax; split <;> omega
theorem c5_findBest {d : Nat} {mem : am_Mem} {P : am_Mem → Prop} {σ : mp_S} (hσ : s_ok σ) (hC : Ch mem σ) (h : ∀ mem', sm 8 20 mem mem' → BC mem' (s_n σ) (Bst σ) → P mem') : am_Cv m5_findBest (d + 11) [.ref 15] mem P := by
  have hn := hσ.1
  have hz := hσ.2.2.2.1
  have hwo : ∀ i, i < s_n σ → 1 ≤ s_wo σ i ∧ s_wo σ i ≤ 99 := fun i hi => (hσ.2.2.2.2.2 i hi).2.2.2.2.1
  refine am_cv rfl rfl rfl (sg5_findBest_0 (D := d + 10) ?_)
  rw [hC.2.2.1]
  refine c5_study (d := d + 7) hσ hC hz.1 hz.2 (fun m1 a1 a2 a3 a4 => ?_)
  have a4 : St m1 σ (4 * s_n σ) := a4
  generalize hm2 : am_set m1 15 7 (-1) = m2
  have b1 : sm 8 18 mem m2 := hm2 ▸ sm_set a1 (by omega) (by omega)
  have b4 : St m2 σ (4 * s_n σ) := a4.keep (by rw [← hm2, am_set_nj _ _ (by decide)]) (by rw [← hm2, am_set_na _ _ (by decide)]) (by rw [← hm2, am_set_na _ _ (by decide)])
  have hC2 : Ch m2 σ := hC.keep (fun a ha => b1 a (by omega))
  have hN := hC2.2.2.2.2.1
  have hW : ∀ i, i < s_n σ → m2 6 i = iz (s_wo σ i) := fun i hi => (hC2.2.2.2.2.2 i hi).2.2.2.2.1
  refine c1_everySite hn hN (c5_freeBoxes (d := d + 9) hσ hN b4 (c1_everySite hn hN (c1_worthOf (d := d + 9) (w := s_wo σ) hn hN hW ?_)))
  have hsum : wsum (s_wo σ) (bt (ev (s_n σ))) (s_n σ) = 0 + rem (s_wo σ) (s_n σ) 0 := by
    have := wsum_rem (s_wo σ) (bt (ev (s_n σ))) (s_n σ) 0 (fun i _ hi => by rw [ev_bt hn, decide_eq_true (by omega)])
    rw [Nat.zero_add] at this
    rw [this]; simp [wsum]
  rw [hsum]
  have hd : d + 10 = (d + 8 - s_n σ) + s_n σ + 2 := by omega
  rw [hd]
  refine c5_seekBest (m0 := m2) (K := pcl σ 1) (wo := s_wo σ) hn hN hW hwo (b4.K hn) (s_n σ) 0 (d + 8 - s_n σ) m2 _ (fun _ => 0) 0 (-1, fun _ => 0) (by omega) (sB_rf m2) (fun i hi => absurd hi (by omega)) ⟨by rw [← hm2, am_set_eq]; rfl, fun q => absurd q (by decide)⟩ (by simp) (by omega) (fun m3 g1 g2 g3 => ⟨rfl, h m3 (fun a ha => ?_) ?_⟩)
  · rw [g1.1 a (by omega) (by omega) (by omega), b1 a (by omega)]
  · have e : bst (pcl σ 1) (s_wo σ) (s_n σ) 0 (bt (bs (pfr σ (ev (s_n σ))) (4 * s_n σ))) (fun _ => 0) 0 (-1, fun _ => 0) = Bst σ := by
      unfold Bst
      apply bst_congr
      intro k _ hk
      rw [bs_bt _ _ (by omega) k (by omega), pF_bt 0 (by omega), pfr_pfree (by omega) (aw := 0) (fun i hi => by rw [ev_bt hn, b_0, decide_eq_true hi]; rfl) (b_0 _)]
      simp [show k < 4 * s_n σ by omega]
    rw [e] at g3; exact g3
/-! the reference's best -/
def BM (mem : am_Mem) (n : Nat) (b : Bs) : Prop := mem 30 20 = iz b.1 ∧ (0 ≤ b.1 → ∀ i, i < n → mem 39 i = cor (b.2 i))
theorem wsum_congr {w : Nat → Int} {s s' : Nat → Bool} : ∀ {k : Nat}, (∀ i, i < k → s i = s' i) → wsum w s k = wsum w s' k := by
  intro k
  induction k with
  | zero => intro _; rfl
  | succ k ih => intro h; simp only [wsum]; rw [ih (fun i hi => h i (by omega)), h k (by omega)]
theorem layBest_41 {D : Nat} {Q : Option Value → am_Mem → Prop} {mem : am_Mem} {n : Nat} {v1 : Int32} {wo : Nat → Int} {row : Nat → Nat} (hn : n ≤ 8) (hN : mem 30 2 = nI n) (hW : ∀ i, i < n → mem 35 i = iz (wo i)) (hr : ∀ i, i < n → row i ≤ 4 ∧ mem 38 i = nI (row i))
    (k : am_J m7_layBest (D + 1) 80 [.ref 30, .int v1, .int (iz (wsum wo (fun i => decide (row i < 4)) n)), .int 0] [] mem Q) :
    ∀ (r s : Nat), s + r = n → am_J m7_layBest (D + 1) 41 [.ref 30, .int v1, .int (iz (wsum wo (fun i => decide (row i < 4)) s)), .int (nI s)] [] mem Q := by
  intro r
  induction r with
  | zero =>
    intro s hs
    have : s = n := by omega
    subst this
    refine sg7_layBest_41 ⟨fun _ => k, fun q => absurd ?_ q⟩
    rw [hN]; exact Int32.le_refl _
  | succ r ih =>
    intro s hs
    have ih' := ih (s + 1) (by omega)
    obtain ⟨r1, r2⟩ := hr s (by omega)
    have e8 : vp_in (nI s) 8 := vp_in_nI (by omega) (by omega)
    refine sg7_layBest_41 ⟨fun q => absurd q ?_, fun _ => ⟨e8, ?_⟩⟩
    · rw [hN, nI_leI (by omega) (by omega)]; omega
    · rw [nI_clamp (by omega), r2, hW s (by omega), show (4 : Int32) = nI 4 from rfl, nI_leI (by omega) (by omega)]
      refine ⟨fun q => sg7_layBest_70 ?_, fun q => ⟨e8, sg7_layBest_70 ?_⟩⟩
      · rw [nI_1]
        simp only [wsum] at ih'
        rw [if_neg (by simp; omega)] at ih'
        simpa using ih'
      · rw [nI_1, iz_add]
        simp only [wsum] at ih'
        rw [if_pos (by simp; omega)] at ih'
        exact ih'
theorem layBest_80 {D : Nat} {Q : Option Value → am_Mem → Prop} {m0 : am_Mem} {n : Nat} {v1 : Int32} {w b : Int} {row : Nat → Nat} (hn : n ≤ 8) (hw : 0 ≤ w ∧ w ≤ 792) (hb : -1 ≤ b ∧ b ≤ 792) (hN : m0 30 2 = nI n) (hB : m0 30 20 = iz b) (hr : ∀ i, i < n → row i ≤ 4 ∧ m0 38 i = nI (row i))
    (k : ∀ mem, Lk m0 mem → mem 38 = m0 38 → mem 41 = m0 41 → mem 30 = m0 30 → (b < w → ∀ i, i < n → mem 39 i = cor (row i)) → (¬ b < w → mem 39 = m0 39) → am_J m7_layBest (D + 1) 129 [.ref 30, .int v1, .int (iz w), .null] [] mem Q) :
    ∀ (r s : Nat) (mem : am_Mem), s + r = n → Lk m0 mem → mem 38 = m0 38 → mem 41 = m0 41 → mem 30 = m0 30 → (b < w → ∀ i, i < s → mem 39 i = cor (row i)) → (¬ b < w → mem 39 = m0 39) → am_J m7_layBest (D + 1) 80 [.ref 30, .int v1, .int (iz w), .int (nI s)] [] mem Q := by
  intro r
  induction r with
  | zero =>
    intro s mem hs hL h38 h41 h30 h39 h39'
    have : s = n := by omega
    subst this
    refine sg7_layBest_80 ⟨fun _ => k mem hL h38 h41 h30 h39 h39', fun q => absurd ?_ q⟩
    rw [h30, hN]; exact Int32.le_refl _
  | succ r ih =>
    intro s mem hs hL h38 h41 h30 h39 h39'
    obtain ⟨r1, r2⟩ := hr s (by omega)
    have e8 : vp_in (nI s) 8 := vp_in_nI (by omega) (by omega)
    refine sg7_layBest_80 ⟨fun q => absurd q ?_, fun _ => ?_⟩
    · rw [h30, hN, nI_leI (by omega) (by omega)]; omega
    · rw [h30, hB, iz_le (by omega) (by omega) (by omega) (by omega), nI_clamp (by omega), h38, r2, show (4 : Int32) = nI 4 from rfl, nI_leI (by omega) (by omega)]
      have k122 : ∀ x : Int32, b < w → x = cor (row s) → am_J m7_layBest (D + 1) 122 [.ref 30, .int v1, .int (iz w), .int (nI s)] [.int x, .int (nI s), .ref 39] mem Q := by
        intro x hbw hx
        refine sg7_layBest_122 ⟨e8, ?_⟩
        rw [nI_1, nI_clamp (by omega)]
        refine ih (s + 1) _ (by omega) (Lk_set hL (by omega) (by omega)) (by rw [am_set_na _ _ (by decide), h38]) (by rw [am_set_na _ _ (by decide), h41]) (by rw [am_set_na _ _ (by decide), h30]) (fun _ i hi => ?_) (fun q => absurd hbw q)
        by_cases his : i = s
        · subst his; rw [am_set_eq]; exact hx
        · rw [am_set_nj _ _ his]; exact h39 hbw i (by omega)
      refine ⟨fun q => k mem hL h38 h41 h30 (fun q1 => absurd q1 (by omega)) h39', fun q => ⟨e8, fun q1 => k122 _ (by omega) ?_, fun q1 => ⟨e8, k122 _ (by omega) ?_⟩⟩⟩
      · unfold cor; rw [if_neg (by omega)]
      · unfold cor; rw [if_pos (by omega)]
