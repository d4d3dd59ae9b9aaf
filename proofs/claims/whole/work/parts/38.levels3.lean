def LvM (mem : am_Mem) (n : Nat) (L : Lv) : Prop := ∀ i, i < n → mem 43 i = iz (L.1 i) ∧ mem 44 i = iz (L.2 i)
theorem c7_mayShow {d : Nat} {mem : am_Mem} {P : Int32 → am_Mem → Prop} {σ : mp_S} {t : Int} {L : Lv} {s c : Nat} (hσ : s_ok σ) (ht1 : 1 ≤ t) (ht2 : t ≤ 6) (hM : Mo mem σ t 0) (hL : LvM mem (s_n σ) L) (ho : lok (s_n σ) L) (hs : s < s_n σ) (hc : c < 4)
    (h : P (bi (may σ t L s c)) mem) : am_Ci m7_mayShow (d + 3) [.ref 30, .int (nI s), .int (nI c)] mem P := by
  have hn := hσ.1
  have loop : ∀ (r o : Nat), o + r = s_n σ → am_J m7_mayShow (d + 3) 10 [.ref 30, .int (nI s), .int (nI c), .int (bi (g_free σ t aw0 s c && (List.range o).all (noc σ t L s c))), .int (nI o)] [] mem (fun r mem' => ∃ x, r = some (.int x) ∧ P x mem') := by
    intro r
    induction r with
    | zero =>
      intro o ho'
      have : o = s_n σ := by omega
      subst this
      refine sg7_mayShow_10 ⟨fun _ => ⟨bi_01 _, am_eq h rfl⟩, fun q => absurd ?_ q⟩
      rw [hM.1.2.2.1]; exact Int32.le_refl _
    | succ r ih =>
      intro o ho'
      have ih' := ih (o + 1) (by omega)
      rw [all_succ] at ih'
      have e8 : vp_in (nI o) 8 := vp_in_nI (by omega) (by omega)
      have k58 : ∀ b : Bool, b = (g_free σ t aw0 s c && ((List.range o).all (noc σ t L s c) && noc σ t L s c o)) → am_J m7_mayShow (d + 3) 58 [.ref 30, .int (nI s), .int (nI c), .null, .int (nI o)] [.int (bi b)] mem (fun r mem' => ∃ x, r = some (.int x) ∧ P x mem') := by
        intro b hb
        refine sg7_mayShow_58 ?_
        rw [nI_1, hb]
        exact ih'
      refine sg7_mayShow_10 ⟨fun q => absurd q ?_, fun _ => ⟨fun q => sg7_mayShow_57 (k58 false ?_), fun q => ⟨e8, ?_⟩⟩⟩
      · rw [hM.1.2.2.1, nI_leI (by omega) (by omega)]; omega
      · have := bi_0.mp q
        rw [← Bool.and_assoc, this]; rfl
      · have hq := bi_n0.mp q
        have e : ∀ b : Bool, noc σ t L s c o = b → b = (g_free σ t aw0 s c && ((List.range o).all (noc σ t L s c) && noc σ t L s c o)) := fun b hb => by rw [← Bool.and_assoc, hq, hb]; simp
        rw [nI_clamp (by omega), (hL o (by omega)).1, (hL o (by omega)).2, lv_9 ho (by omega)]
        refine ⟨fun q1 => sg7_mayShow_53 (k58 true (e true ?_)), fun q1 => ⟨e8, ?_⟩⟩
        · unfold noc; rw [decide_eq_true q1]; rfl
        · obtain ⟨c1, c2⟩ := lv_c ho (by omega) q1
          rw [c1]
          refine c7_clashes (d := d) hσ ht1 ht2 hM hs hc (by omega) c2 ⟨fun q2 => sg7_mayShow_57 (k58 false (e false ?_)), fun q2 => sg7_mayShow_53 (k58 true (e true ?_))⟩
          · unfold noc; rw [bi_n0.mp q2, decide_eq_false q1]; rfl
          · unfold noc; rw [bi_0.mp q2]; simp
  refine am_ci rfl rfl rfl (sg7_mayShow_0 (c7_isFree (d := d) hσ ht1 ht2 hM hs hc ?_))
  rw [g_free_b0]
  have := loop (s_n σ) 0 (by omega)
  simpa [nI_0] using this
theorem c7_show {d : Nat} {mem : am_Mem} {P : am_Mem → Prop} {σ : mp_S} {L : Lv} {s z : Nat} (hσ : s_ok σ) (hz : z < 6) (hM : Mo mem σ ((z : Int) + 1) 0) (hL : LvM mem (s_n σ) L) (ho : lok (s_n σ) L) (hs : s < s_n σ) (h9 : L.1 s = -9)
    (h : ∀ mem', sm 43 45 mem mem' → LvM mem' (s_n σ) (shw σ z s L) → P mem') : am_Cv m7_show (d + 4) [.ref 30, .int (nI s), .int (nI z)] mem P := by
  have hn := hσ.1
  have e8 : vp_in (nI s) 8 := vp_in_nI (by omega) (by omega)
  have cs : (nI s).toNatClampNeg = s := nI_clamp (by omega)
  have loop : ∀ (t c : Nat), c + t = 4 → nxt (may σ ((z : Int) + 1) L s) t c = nxt (may σ ((z : Int) + 1) L s) 4 0 → am_J m7_show (d + 4) 2 [.ref 30, .int (nI s), .int (nI z), .int (nI c)] [] mem (fun r mem' => r = none ∧ P mem') := by
    intro t
    induction t with
    | zero =>
      intro c hc he
      have : c = 4 := by omega
      subst this
      refine sg7_show_2 ⟨fun _ => ⟨rfl, h mem (sm_rf _ _ _) ?_⟩, fun q => absurd (show (4 : Int32) ≤ nI 4 from Int32.le_refl _) q⟩
      have e : shw σ z s L = L := by unfold shw; rw [if_pos h9, ← he, if_neg (by simp [nxt])]
      rw [e]; exact hL
    | succ t ih =>
      intro c hc he
      refine sg7_show_2 ⟨fun q => absurd q ?_, fun _ => ⟨e8, ?_⟩⟩
      · rw [show (4 : Int32) = nI 4 from rfl, nI_leI (by omega) (by omega)]; omega
      rw [cs, (hL s hs).1, lv_9 ho hs]
      refine ⟨fun q => absurd h9 q, fun _ => c7_mayShow (d := d) hσ (by omega) (by omega) hM hL ho hs (by omega) ⟨fun q => sg7_show_41 ?_, fun q => ⟨e8, e8, sg7_show_41 ?_⟩⟩⟩
      · rw [nI_1]
        refine ih (c + 1) (by omega) ?_
        rw [← he]; simp [nxt, bi_0.mp q]
      · have hm := bi_n0.mp q
        have he' : nxt (may σ ((z : Int) + 1) L s) 4 0 = c := by rw [← he]; simp [nxt, hm]
        rw [nI_1]
        generalize hm1 : am_set (am_set mem 43 s (nI z)) 44 s (nI c) = m1
        have hs1 : sm 43 45 mem m1 := hm1 ▸ sm_set (sm_set (sm_rf _ _ _) (by omega) (by omega)) (by omega) (by omega)
        have e : shw σ z s L = (hset L.1 s z, hset L.2 s c) := by unfold shw; rw [if_pos h9, he', if_pos (by omega)]
        have hL1 : LvM m1 (s_n σ) (shw σ z s L) := by
          rw [e, ← hm1]
          intro i hi
          by_cases his : i = s
          · subst his
            rw [am_set_na _ _ (show (43 : Nat) ≠ 44 by decide), am_set_eq, am_set_eq, iz_nI, iz_nI]
            simp [hset]
          · rw [am_set_na _ _ (show (43 : Nat) ≠ 44 by decide), am_set_nj _ _ his, am_set_nj _ _ his, am_set_na _ _ (show (44 : Nat) ≠ 43 by decide)]
            simp only [hset, his, if_false]
            exact hL i hi
        have h43 : m1 43 s = nI z := by rw [← hm1, am_set_na _ _ (show (43 : Nat) ≠ 44 by decide), am_set_eq]
        refine sg7_show_2 ⟨fun _ => ⟨rfl, h m1 hs1 hL1⟩, fun _ => ⟨e8, ?_⟩⟩
        rw [cs, h43]
        refine ⟨fun _ => ⟨rfl, h m1 hs1 hL1⟩, fun q1 => absurd q1 ?_⟩
        rw [iz_nI, show (-9 : Int32) = iz (-9) from rfl, iz_eq (by omega) (by omega) (by omega) (by omega)]; omega
  exact am_cv rfl rfl rfl (sg7_show_0 (loop 4 0 (by omega) rfl))
/-- the reference's frame over all LEVELS: its times, and its LEVELS -/
def mL (mem mem' : am_Mem) : Prop := (∀ a, a ≠ 30 → a ≠ 43 → a ≠ 44 → mem' a = mem a) ∧ ∀ j, j ≠ 12 → mem' 30 j = mem 30 j
theorem mL_rf (mem : am_Mem) : mL mem mem := ⟨fun _ _ _ _ => rfl, fun _ _ => rfl⟩
theorem mL_sm {m0 m m' : am_Mem} (h : mL m0 m) (hs : sm 43 45 m m') : mL m0 m' := ⟨fun a h1 h2 h3 => by rw [hs a (by omega)]; exact h.1 a h1 h2 h3, fun j hj => by rw [hs 30 (by omega)]; exact h.2 j hj⟩
theorem mL_12 {m0 m : am_Mem} (h : mL m0 m) {v : Int32} : mL m0 (am_set m 30 12 v) := ⟨fun a h1 h2 h3 => by rw [am_set_na _ _ h1]; exact h.1 a h1 h2 h3, fun j hj => by rw [am_set_nj _ _ hj]; exact h.2 j hj⟩
theorem Mo.sc {m0 m : am_Mem} {σ : mp_S} {z z' : Int} {aw : Int32} (h : Mo m0 σ z aw) (hm : mL m0 m) (h12 : m 30 12 = iz z') : Mo m σ z' aw := by
  obtain ⟨⟨h0, h1, h2, h3, h4, -, h6⟩, h7⟩ := h
  refine ⟨⟨?_, ?_, ?_, ?_, ?_, h12, ?_⟩, ?_⟩
  · rw [hm.2 0 (by decide)]; exact h0
  · rw [hm.2 1 (by decide)]; exact h1
  · rw [hm.2 2 (by decide)]; exact h2
  · rw [hm.2 10 (by decide)]; exact h3
  · rw [hm.2 11 (by decide)]; exact h4
  · rw [hm.2 13 (by decide)]; exact h6
  · rw [hm.1 31 (by decide) (by decide) (by decide), hm.1 32 (by decide) (by decide) (by decide), hm.1 33 (by decide) (by decide) (by decide), hm.1 34 (by decide) (by decide) (by decide), hm.1 35 (by decide) (by decide) (by decide), hm.1 36 (by decide) (by decide) (by decide), hm.1 37 (by decide) (by decide) (by decide)]
    exact h7
theorem c7_layLevels {d : Nat} {mem : am_Mem} {P : am_Mem → Prop} {σ : mp_S} (hσ : s_ok σ) (hM : Mo mem σ 1 0) (h : ∀ mem', mL mem mem' → Mo mem' σ 1 0 → LvM mem' (s_n σ) (lvl σ 6) → P mem') : am_Cv m7_layLevels (d + 5) [.ref 30] mem P := by
  have hn := hσ.1
  have hwo : ∀ i, i < s_n σ → 1 ≤ s_wo σ i ∧ s_wo σ i ≤ 99 := fun i hi => (hσ.2.2.2.2.2 i hi).2.2.2.2.1
  have key : ∀ (r z : Nat) (m : am_Mem), z + r = 6 → mL mem m → LvM m (s_n σ) (lvl σ z) → am_J m7_layLevels (d + 5) 34 [.ref 30, .int (nI z), .null, .null] [] m (fun r mem' => r = none ∧ P mem') := by
    intro r
    induction r with
    | zero =>
      intro z m hzr hm hL
      have : z = 6 := by omega
      subst this
      refine sg7_layLevels_34 ⟨fun _ => ⟨rfl, h _ (mL_12 hm) (hM.sc (mL_12 hm) (am_set_eq _ _ _ _)) (fun i hi => ?_)⟩, fun q => absurd (show (6 : Int32) ≤ nI 6 from Int32.le_refl _) q⟩
      rw [am_set_na _ _ (show (43 : Nat) ≠ 30 by decide), am_set_na _ _ (show (44 : Nat) ≠ 30 by decide)]; exact hL i hi
    | succ r ih =>
      intro z m hzr hm hL
      refine sg7_layLevels_34 ⟨fun q => absurd q ?_, fun _ => ?_⟩
      · rw [show (6 : Int32) = nI 6 from rfl, nI_leI (by omega) (by omega)]; omega
      rw [show nI z + (1 : Int32) = iz ((z : Int) + 1) by rw [iz_nI, show (1 : Int32) = iz 1 from rfl, iz_add]]
      generalize hm2 : am_set m 30 12 (iz ((z : Int) + 1)) = m2
      have hml2 : mL mem m2 := hm2 ▸ mL_12 hm
      have h12 : m2 30 12 = iz ((z : Int) + 1) := by rw [← hm2, am_set_eq]
      have hL2 : LvM m2 (s_n σ) (lvl σ z) := fun i hi => by
        rw [← hm2, am_set_na _ _ (show (43 : Nat) ≠ 30 by decide), am_set_na _ _ (show (44 : Nat) ≠ 30 by decide)]; exact hL i hi
      -- by WORTH, the greatest first
      have worths : ∀ (v : Nat) (m3 : am_Mem) (L : Lv), v ≤ 99 → mL mem m3 → m3 30 12 = iz ((z : Int) + 1) → LvM m3 (s_n σ) L → lok (s_n σ) L → (ordv (s_wo σ) (s_n σ) v).foldl (fun L s => shw σ z s L) L = lvl σ (z + 1) → am_J m7_layLevels (d + 5) 50 [.ref 30, .int (nI z), .int (nI v), .null] [] m3 (fun r mem' => r = none ∧ P mem') := by
        intro v
        induction v with
        | zero =>
          intro m3 L hv g1 g2 g3 g4 hf
          refine sg7_layLevels_50 ⟨fun _ => ?_, fun q => absurd (show nI 0 ≤ (0 : Int32) from Int32.le_refl _) q⟩
          rw [nI_1]
          have hf : L = lvl σ (z + 1) := hf
          exact ih (z + 1) m3 (by omega) g1 (hf ▸ g3)
        | succ v ihv =>
          intro m3 L hv g1 g2 g3 g4 hf
          simp only [ordv, List.foldl_append] at hf
          have sites : ∀ (r2 s : Nat) (m4 : am_Mem) (L4 : Lv), s + r2 = s_n σ → mL mem m4 → m4 30 12 = iz ((z : Int) + 1) → LvM m4 (s_n σ) L4 → lok (s_n σ) L4 → L4 = ((List.range s).filter (fun s => decide (s_wo σ s = (v : Int) + 1))).foldl (fun L s => shw σ z s L) L → am_J m7_layLevels (d + 5) 56 [.ref 30, .int (nI z), .int (nI (v + 1)), .int (nI s)] [] m4 (fun r mem' => r = none ∧ P mem') := by
            intro r2
            induction r2 with
            | zero =>
              intro s m4 L4 hs l1 l2 l3 l4 l5
              have : s = s_n σ := by omega
              subst this
              refine sg7_layLevels_56 ⟨fun _ => ?_, fun q => absurd ?_ q⟩
              · rw [pk_m1]
                exact ihv m4 L4 (by omega) l1 l2 l3 l4 (by rw [l5]; exact hf)
              · rw [l1.2 2 (by decide), hM.1.2.2.1]; exact Int32.le_refl _
            | succ r2 ih2 =>
              intro s m4 L4 hs l1 l2 l3 l4 l5
              have e8 : vp_in (nI s) 8 := vp_in_nI (by omega) (by omega)
              have hM4 := hM.sc l1 l2
              have hws := hwo s (by omega)
              have e35 : m4 35 s = iz (s_wo σ s) := (hM4.2 s (by omega)).2.2.2.2.1
              have fs : ((List.range (s + 1)).filter (fun s => decide (s_wo σ s = (v : Int) + 1))).foldl (fun L s => shw σ z s L) L = (if s_wo σ s = (v : Int) + 1 then shw σ z s L4 else L4) := by
                rw [List.range_succ, List.filter_append, List.foldl_append, ← l5]
                by_cases hw : s_wo σ s = (v : Int) + 1
                · simp [hw]
                · simp [hw]
              have k91 : ∀ (m5 : am_Mem) (L5 : Lv), mL mem m5 → m5 30 12 = iz ((z : Int) + 1) → LvM m5 (s_n σ) L5 → lok (s_n σ) L5 → L5 = (if s_wo σ s = (v : Int) + 1 then shw σ z s L4 else L4) → am_J m7_layLevels (d + 5) 91 [.ref 30, .int (nI z), .int (nI (v + 1)), .int (nI s)] [] m5 (fun r mem' => r = none ∧ P mem') := by
                intro m5 L5 b1 b2 b3 b4 b5
                refine sg7_layLevels_91 ?_
                rw [nI_1]
                exact ih2 (s + 1) m5 L5 (by omega) b1 b2 b3 b4 (by rw [b5, fs])
              have qv : iz (s_wo σ s) = nI (v + 1) ↔ s_wo σ s = (v : Int) + 1 := by
                rw [iz_nI, iz_eq (by omega) (by omega) (by omega) (by omega)]; omega
              refine sg7_layLevels_56 ⟨fun q => absurd q ?_, fun _ => ⟨e8, ?_⟩⟩
              · rw [l1.2 2 (by decide), hM.1.2.2.1, nI_leI (by omega) (by omega)]; omega
              · rw [nI_clamp (by omega), e35, qv, (l3 s (by omega)).1, lv_9 l4 (by omega)]
                refine ⟨fun q => k91 m4 L4 l1 l2 l3 l4 (by rw [if_neg q]), fun q => ⟨e8, fun q1 => k91 m4 L4 l1 l2 l3 l4 ?_, fun q1 => ?_⟩⟩
                · rw [if_pos q]; unfold shw; rw [if_neg q1]
                · exact c7_show (d := d) hσ (by omega) hM4 l3 l4 (by omega) q1 (fun m5 b1 b2 => k91 m5 _ (mL_sm l1 b1) (by rw [b1 30 (by omega)]; exact l2) b2 (shw_ok (by omega) l4) (by rw [if_pos q]))
          refine sg7_layLevels_50 ⟨fun q => absurd q (nI_nle (by omega) (by omega)), fun _ => ?_⟩
          exact sites (s_n σ) 0 m3 L (by omega) g1 g2 g3 g4 rfl
      exact worths 99 m2 (lvl σ z) (by omega) hml2 h12 hL2 (lvl_ok σ z (by omega)) rfl
  have init : ∀ (r i : Nat) (m : am_Mem), i + r = s_n σ → sm 43 45 mem m → (∀ j, j < i → m 43 j = -9 ∧ m 44 j = -9) → am_J m7_layLevels (d + 5) 2 [.ref 30, .int (nI i), .null, .null] [] m (fun r mem' => r = none ∧ P mem') := by
    intro r
    induction r with
    | zero =>
      intro i m hi hm hj
      have : i = s_n σ := by omega
      subst this
      refine sg7_layLevels_2 ⟨fun _ => key 6 0 m (by omega) (mL_sm (mL_rf mem) hm) (fun i hi => hj i hi), fun q => absurd ?_ q⟩
      rw [hm 30 (by omega), hM.1.2.2.1]; exact Int32.le_refl _
    | succ r ih =>
      intro i m hi hm hj
      have e8 : vp_in (nI i) 8 := vp_in_nI (by omega) (by omega)
      refine sg7_layLevels_2 ⟨fun q => absurd q ?_, fun _ => ⟨e8, e8, ?_⟩⟩
      · rw [hm 30 (by omega), hM.1.2.2.1, nI_leI (by omega) (by omega)]; omega
      · rw [nI_1, nI_clamp (by omega)]
        refine ih (i + 1) _ (by omega) (sm_set (sm_set hm (by omega) (by omega)) (by omega) (by omega)) (fun j hj' => ?_)
        by_cases hji : j = i
        · subst hji
          rw [am_set_na _ _ (show (43 : Nat) ≠ 44 by decide), am_set_eq, am_set_eq]; exact ⟨rfl, rfl⟩
        · rw [am_set_na _ _ (show (43 : Nat) ≠ 44 by decide), am_set_nj _ _ hji, am_set_nj _ _ hji, am_set_na _ _ (show (44 : Nat) ≠ 43 by decide)]
          exact hj j (by omega)
  exact am_cv rfl rfl rfl (sg7_layLevels_0 (init (s_n σ) 0 mem (by omega) (sm_rf _ _ _) (fun j hj => absurd hj (by omega))))
