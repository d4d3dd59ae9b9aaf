theorem best_C {D : Nat} {Q : Option Value → am_Mem → Prop} {m0 : am_Mem} {n : Nat} {K : Nat → Nat → Bool} {wo : Nat → Int} (hn : n ≤ 8) (hN : m0 30 2 = nI n) (hK : ∀ k, k < 4 * n → ∀ b, b < 32 → bt (m0 40 k) b = K k b) (hW : ∀ i, i < n → m0 35 i = iz (wo i)) (hwo : ∀ i, i < n → 1 ≤ wo i ∧ wo i ≤ 99) :
    ∀ (r s : Nat) (mem : am_Mem) (row : Nat → Nat) (o : Nat → Bool) (b : Bs), s + r = n → Lk m0 mem → (∀ i, i < s → row i ≤ 4 ∧ mem 38 i = nI (row i)) → (s < n → mem 38 s = -1) → (∀ k, k < 32 → o k = (bt (m0 30 16) k && !bt (mem 41 s) k)) → BM mem n b → (-1 ≤ b.1 ∧ b.1 ≤ 792) →
      (∀ mem', Lk m0 mem' → pre s mem mem' → BM mem' n (bst K wo r s o row (wsum wo (fun i => decide (row i < 4)) s) b) → am_J m7_layBest (D + 1) 25 [.ref 30, .int (iz ((s : Int) - 1)), .null, .null] [] mem' Q) →
      am_J m7_layBest (D + 1) 25 [.ref 30, .int (nI s), .null, .null] [] mem Q := by
  intro r
  induction r with
  | zero =>
    intro s mem row o b hs hL hrow _ ho hb hbr k
    have : s = n := by omega
    subst this
    have hws := wsum_rng (w := wo) (s := fun i => decide (row i < 4)) (k := s) hwo
    have hM : mem 30 2 = nI s := by rw [hL.n, hN]
    refine sg7_layBest_25 ⟨fun q => absurd q (nI_pos (by omega)), fun _ => ⟨fun q => absurd hM.symm q, fun _ => ?_⟩⟩
    refine layBest_41 (wo := wo) (row := row) hn hM (fun i hi => by rw [hL.1.1 35 (by decide) (by decide)]; exact hW i hi) hrow ?_ s 0 (by omega)
    refine layBest_80 (m0 := mem) (n := s) (b := b.1) (row := row) hn (by omega) hbr hM hb.1 hrow (fun m1 g1 g2 g3 g4 g5 g6 => ?_) s 0 mem (by omega) (Lk_rf mem) rfl rfl rfl (fun _ i hi => absurd hi (by omega)) (fun _ => rfl)
    refine sg7_layBest_129 ?_
    rw [g4, hb.1, iz_le (by omega) (by omega) (by omega) (by omega)]
    have fin : ∀ x : Int, x = imax b.1 (wsum wo (fun i => decide (row i < 4)) s) → am_J m7_layBest (D + 1) 146 [.ref 30, .int (nI s), .null, .null] [.int (iz x), .ref 30] m1 Q := by
      intro x hx
      refine sg7_layBest_146 ?_
      rw [iz_m1]
      refine k _ (Lk_tr hL (Lk_fld g1 (by omega) (by omega))) ⟨fun i _ => by rw [am_set_na _ _ (by decide), g2], fun j _ => by rw [am_set_na _ _ (by decide), g3]⟩ ?_
      simp only [bst]
      by_cases hlt : b.1 < wsum wo (fun i => decide (row i < 4)) s
      · rw [if_pos hlt]
        refine ⟨?_, fun _ i hi => ?_⟩
        · rw [am_set_eq, hx]; unfold imax; rw [if_pos hlt]
        · rw [am_set_na _ _ (by decide)]; exact g5 hlt i hi
      · rw [if_neg hlt]
        refine ⟨?_, fun h0 i hi => ?_⟩
        · rw [am_set_eq, hx]; unfold imax; rw [if_neg hlt]
        · rw [am_set_na _ _ (by decide), g6 hlt]; exact hb.2 h0 i hi
    refine ⟨fun q => fin _ ?_, fun q => fin _ ?_⟩
    · unfold imax; rw [if_neg (by omega)]
    · unfold imax; rw [if_pos (by omega)]
  | succ r ih =>
    intro s mem row o b hs hL hrow hrs ho hb hbr k
    have hsn : s < n := by omega
    have e8 : vp_in (nI s) 8 := vp_in_nI (by omega) (by omega)
    have cs : (nI s).toNatClampNeg = s := nI_clamp (by omega)
    have ne : ∀ m, Lk m0 m → ¬ nI s = m 30 2 := fun m h => by rw [h.n, hN, nI_eq (by omega) (by omega)]; omega
    have hws := wsum_rng (w := wo) (s := fun i => decide (row i < 4)) (k := s) (fun i hi => hwo i (by omega))
    have w4 : ∀ c, wsum wo (fun i => decide (rs row s c i < 4)) (s + 1) = wsum wo (fun i => decide (row i < 4)) s + (if c < 4 then wo s else 0) := by
      intro c
      simp only [wsum]
      have e1 : wsum wo (fun i => decide (rs row s c i < 4)) s = wsum wo (fun i => decide (row i < 4)) s := wsum_congr (fun i hi => by
        have : ¬ i = s := by omega
        simp [rs, this])
      rw [e1]
      have : rs row s c s = c := by simp [rs]
      simp [this]
    -- NONE, behind all CORNERS
    have none_ : ∀ (mem : am_Mem) (b : Bs), Lk m0 mem → (∀ i, i < s → row i ≤ 4 ∧ mem 38 i = nI (row i)) → mem 38 s = nI 4 → (∀ k, k < 32 → o k = (bt (m0 30 16) k && !bt (mem 41 s) k)) → BM mem n b → (-1 ≤ b.1 ∧ b.1 ≤ 792) →
        (∀ mem', Lk m0 mem' → pre s mem mem' → BM mem' n (bst K wo r (s + 1) o (rs row s 4) (wsum wo (fun i => decide (row i < 4)) s) b) → am_J m7_layBest (D + 1) 25 [.ref 30, .int (iz ((s : Int) - 1)), .null, .null] [] mem' Q) →
        am_Ci m7_step D [.ref 30, .int (nI s)] mem (fun r_1 mem_1 => am_J m7_layBest (D + 1) 25 [.ref 30, .int r_1, .null, .null] [] mem_1 Q) := by
      intro mem b hL hrow hrs ho hb hbr k
      refine c7_step_on hsn hn (by rw [hL.n, hN]) (by omega) hrs (fun m2 hm2 => ?_)
      obtain ⟨n1, n2, n3, n4, n5, n6, n7, n8⟩ := on_next hm2
      refine ih (s + 1) m2 (rs row s 4) o b (by omega) (Lk_tr hL n1) (fun i hi => ?_) n5 (fun kk hkk => ?_) ⟨by rw [n6]; exact hb.1, fun h0 i hi => by rw [n8]; exact hb.2 h0 i hi⟩ hbr (fun m3 g1 g2 g3 => ?_)
      · by_cases his : i = s
        · subst his
          refine ⟨by simp [rs], ?_⟩
          rw [n2 i (by omega), hrs]; simp [rs]
        · refine ⟨by simp [rs, his]; exact (hrow i (by omega)).1, ?_⟩
          rw [n2 i (by omega), (hrow i (by omega)).2]; simp [rs, his]
      · rw [n4, if_neg (by omega), or_0]; exact ho kk hkk
      · rw [show (((s + 1 : Nat) : Int) - 1) = (s : Int) by omega, ← iz_nI]
        rw [w4 4, if_neg (by omega), Int.add_zero] at g3
        refine sg7_layBest_25 ⟨fun q => absurd q (nI_pos (by omega)), fun _ => ⟨fun _ => ⟨e8, ?_⟩, fun q => absurd q (ne m3 g1)⟩⟩
        rw [cs, g2.1 s (by omega), n2 s (by omega), hrs]
        refine ⟨fun q => absurd rfl q, fun _ => sg7_layBest_180 ⟨e8, ?_⟩⟩
        rw [cs]
        refine c7_step_back (by omega) (am_set_eq _ _ _ _) ?_
        refine k _ (Lk_set g1 (by omega) (by omega)) ⟨fun i hi => ?_, fun j hj => ?_⟩ ⟨?_, fun h0 i hi => ?_⟩
        · rw [am_set_nj _ _ (by omega), g2.1 i (by omega), n2 i (by omega)]
        · rw [am_set_na _ _ (by decide), g2.2 j (by omega), n3 j (by omega)]
        · rw [am_set_na _ _ (by decide)]; exact g3.1
        · rw [am_set_na _ _ (by decide)]; exact g3.2 h0 i hi
    have loop : ∀ (t c : Nat) (mem : am_Mem) (b : Bs), c + t = 4 → Lk m0 mem → (∀ i, i < s → row i ≤ 4 ∧ mem 38 i = nI (row i)) → mem 38 s = iz ((c : Int) - 1) → (∀ k, k < 32 → o k = (bt (m0 30 16) k && !bt (mem 41 s) k)) → BM mem n b → (-1 ≤ b.1 ∧ b.1 ≤ 792) →
        (∀ mem', Lk m0 mem' → pre s mem mem' → BM mem' n (bst K wo r (s + 1) o (rs row s 4) (wsum wo (fun i => decide (row i < 4)) s) (tlB (fun c b => if o (4 * s + c) = true then bst K wo r (s + 1) (mn K (4 * s + c) o) (rs row s c) (wsum wo (fun i => decide (row i < 4)) s + wo s) b else b) t c b)) → am_J m7_layBest (D + 1) 25 [.ref 30, .int (iz ((s : Int) - 1)), .null, .null] [] mem' Q) →
        am_J m7_layBest (D + 1) 25 [.ref 30, .int (nI s), .null, .null] [] mem Q := by
      intro t
      induction t using Nat.strongRecOn with
      | ind t iht =>
        intro c mem b hct hL hrow hrs ho hb hbr k
        refine sg7_layBest_25 ⟨fun q => absurd q (nI_pos (by omega)), fun _ => ⟨fun _ => ⟨e8, ?_⟩, fun q => absurd q (ne mem hL)⟩⟩
        rw [cs, hrs, show (4 : Int32) = iz 4 from rfl, iz_eq (by omega) (by omega) (by omega) (by omega)]
        refine ⟨fun _ => ?_, fun q => absurd q (by omega)⟩
        have hf : ∀ c, c < 4 → (fun c => o (4 * s + c)) c = (bt (mem 30 16) (4 * s + c) && !bt (mem 41 s) (4 * s + c)) := fun c hc => by rw [hL.2.1]; exact ho _ (by omega)
        have hx := nxt_le (fun c => o (4 * s + c)) t c
        have t1 := tlB_nxt (f := fun c => o (4 * s + c)) (g := fun c b => bst K wo r (s + 1) (mn K (4 * s + c) o) (rs row s c) (wsum wo (fun i => decide (row i < 4)) s + wo s) b) t c b
        refine c7_nextCorner (b := false) (s := s) (t := t) (c := c) (by omega) hct hrs hf ?_
        rw [if_neg (fun w => absurd w.2.1 (by decide))]
        generalize hq : nxt (fun c => o (4 * s + c)) t c = c' at *
        refine sg7_layBest_180 ⟨e8, ?_⟩
        rw [cs]
        generalize hm1 : am_set mem 38 s (nI c') = m1
        have hL1 : Lk m0 m1 := hm1 ▸ Lk_set hL (by omega) (by omega)
        have r1 : m1 38 s = nI c' := by rw [← hm1, am_set_eq]
        have r2 : ∀ i, i ≠ s → m1 38 i = mem 38 i := fun i hi => by rw [← hm1, am_set_nj _ _ hi]
        have r3 : ∀ a, a ≠ 38 → m1 a = mem a := fun a ha => by rw [← hm1, am_set_na _ _ ha]
        have hb1 : BM m1 n b := ⟨by rw [r3 30 (by decide)]; exact hb.1, fun h0 i hi => by rw [r3 39 (by decide)]; exact hb.2 h0 i hi⟩
        by_cases h4 : c' = 4
        · rw [if_neg (by omega)] at t1
          refine none_ m1 b hL1 (fun i hi => ⟨(hrow i hi).1, by rw [r2 i (by omega)]; exact (hrow i hi).2⟩) (by rw [r1, h4]) (fun kk hkk => by rw [r3 41 (by decide)]; exact ho kk hkk) hb1 hbr (fun m' g1 g2 g3 => k m' g1 ⟨fun i hi => by rw [g2.1 i hi, r2 i (by omega)], fun j hj => by rw [g2.2 j hj, r3 41 (by decide)]⟩ (by rw [t1]; exact g3))
        · rw [if_pos (by omega)] at t1
          refine c7_step_on hsn hn (by rw [hL1.n, hN]) (by omega) r1 (fun m2 hm2 => ?_)
          obtain ⟨n1, n2, n3, n4, n5, n6, n7, n8⟩ := on_next hm2
          refine ih (s + 1) m2 (rs row s c') (mn K (4 * s + c') o) b (by omega) (Lk_tr hL1 n1) (fun i hi => ?_) n5 (fun kk hkk => ?_) ⟨by rw [n6]; exact hb1.1, fun h0 i hi => by rw [n8]; exact hb1.2 h0 i hi⟩ hbr (fun m3 g1 g2 g3 => ?_)
          · by_cases his : i = s
            · subst his
              refine ⟨by simp [rs]; omega, ?_⟩
              rw [n2 i (by omega), r1]; simp [rs]
            · refine ⟨by simp [rs, his]; exact (hrow i (by omega)).1, ?_⟩
              rw [n2 i (by omega), r2 i his, (hrow i (by omega)).2]; simp [rs, his]
          · rw [n4, b_or, if_pos (by omega), r3 41 (by decide), hL1.2.2]
            simp only [mn]
            rw [ho kk hkk, hK _ (by omega) kk hkk]
            cases bt (m0 30 16) kk <;> cases bt (mem 41 s) kk <;> cases K (4 * s + c') kk <;> rfl
          · rw [show (((s + 1 : Nat) : Int) - 1) = (s : Int) by omega, ← iz_nI]
            rw [w4 c', if_pos (by omega)] at g3
            have hos := hwo s hsn
            refine iht (c + t - c' - 1) (by omega) (c' + 1) m3 _ (by omega) g1 (fun i hi => ?_) ?_ (fun kk hkk => ?_) g3 (bst_rng (n := n) hn (by omega) hwo (by omega) hbr) (fun m4 l1 l2 l3 => k m4 l1 ⟨fun i hi => ?_, fun j hj => ?_⟩ (by rw [t1]; exact l3))
            · refine ⟨(hrow i hi).1, ?_⟩
              rw [g2.1 i (by omega), n2 i (by omega), r2 i (by omega)]; exact (hrow i hi).2
            · rw [g2.1 s (by omega), n2 s (by omega), r1, iz_nI]
              congr 1; omega
            · rw [g2.2 s (by omega), n3 s (by omega), r3 41 (by decide)]; exact ho kk hkk
            · rw [l2.1 i hi, g2.1 i (by omega), n2 i (by omega), r2 i (by omega)]
            · rw [l2.2 j hj, g2.2 j (by omega), n3 j (by omega), r3 41 (by decide)]
    exact loop 4 0 mem b (by omega) hL hrow (by rw [hrs hsn]; rfl) ho hb hbr k
theorem c7_layBest {d : Nat} {mem : am_Mem} {P : am_Mem → Prop} {σ : mp_S} (hσ : s_ok σ) (hM : Mo mem σ 1 0) (h : ∀ mem', md mem mem' → BM mem' (s_n σ) (Bst σ) → P mem') : am_Cv m7_layBest (d + 4) [.ref 30] mem P := by
  have hn := hσ.1
  refine am_cv rfl rfl rfl (sg7_layBest_0 (c7_layBits hσ (by omega) (by omega) hM (fun m1 a1 a2 a3 => ⟨vp_in_nI (n := 0) (by omega) (by omega), vp_in_nI (n := 0) (by omega) (by omega), ?_⟩)))
  rw [show ((0 : Int32)).toNatClampNeg = 0 from rfl]
  generalize hm2 : am_set (am_set (am_set m1 30 20 (-1)) 38 0 (-1)) 41 0 0 = m2
  have a1' : md mem m2 := hm2 ▸ md_set (md_set (md_fld a1 (by omega)) (by omega)) (by omega)
  have a2' : m2 30 16 = pF σ 0 := by rw [← hm2, am_set_na _ _ (by decide), am_set_na _ _ (by decide), am_set_nj _ _ (by decide)]; exact a2
  have a3' : ∀ j, j < 32 → m2 40 j = bs (pcl σ 1 j) 32 := fun j hj => by rw [← hm2, am_set_na _ _ (by decide), am_set_na _ _ (by decide), am_set_na _ _ (by decide)]; exact a3 j hj
  have b1 : m2 30 20 = -1 := by rw [← hm2, am_set_na _ _ (by decide), am_set_na _ _ (by decide), am_set_eq]
  have b2 : m2 38 0 = -1 := by rw [← hm2, am_set_na _ _ (by decide), am_set_eq]
  have b3 : m2 41 0 = 0 := by rw [← hm2, am_set_eq]
  have hM2 := hM.md a1'
  refine best_C (m0 := m2) (K := pcl σ 1) (wo := s_wo σ) hn hM2.1.2.2.1 (layK hn a3') (fun i hi => (hM2.2 i hi).2.2.2.2.1) (fun i hi => (hσ.2.2.2.2.2 i hi).2.2.2.2.1) (s_n σ) 0 m2 (fun _ => 0) (bt (pF σ 0)) (-1, fun _ => 0) (by omega) (Lk_rf m2) (fun i hi => absurd hi (by omega)) (fun _ => b2) (fun k hk => by rw [a2', b3, b_0]; simp) ⟨b1.trans rfl, fun q => absurd q (by decide)⟩ (by simp) (fun m3 g1 g2 g3 => ?_)
  exact sg7_layBest_25 ⟨fun _ => ⟨rfl, h m3 (md_tr a1' g1.1) g3⟩, fun q => absurd (by decide : iz (((0 : Nat) : Int) - 1) < 0) q⟩
