def LvC (mem : am_Mem) (n : Nat) (L : Lv) : Prop := ∀ i, i < n → mem 23 i = iz (L.1 i) ∧ mem 24 i = iz (L.2 i)
theorem lv_9 {n : Nat} {L : Lv} (h : lok n L) {i : Nat} (hi : i < n) : iz (L.1 i) = -9 ↔ L.1 i = -9 := by
  rw [show (-9 : Int32) = iz (-9) from rfl, iz_eq (by rcases h i hi with h | h <;> omega) (by rcases h i hi with h | h <;> omega) (by omega) (by omega)]
theorem lv_c {n : Nat} {L : Lv} (h : lok n L) {i : Nat} (hi : i < n) (h9 : ¬ L.1 i = -9) : iz (L.2 i) = nI (cr L.2 i) ∧ cr L.2 i < 4 := by
  have : 0 ≤ L.2 i ∧ L.2 i ≤ 3 := by rcases h i hi with h | h <;> omega
  unfold cr
  refine ⟨?_, by omega⟩
  rw [iz_nI]; congr 1; omega
/-- what the class knows at a LEVEL, t times as great -/
def Lx (mem : am_Mem) (σ : mp_S) (t : Int) : Prop := Bx mem σ t (s_n σ) ∧ Cz mem σ
theorem Lx.keep {mem mem' : am_Mem} {σ : mp_S} {t : Int} (h : Lx mem σ t) (hk : ∀ a, 1 ≤ a → a ≤ 14 → mem' a = mem a) : Lx mem' σ t := ⟨h.1.keep (fun a h1 h2 => hk a (by omega) (by omega)), h.2.keep (fun a h1 h2 => hk a h1 (by omega))⟩
theorem c4_clashesWithShown {d : Nat} {mem : am_Mem} {P : Int32 → am_Mem → Prop} {σ : mp_S} {t : Int} {L : Lv} {s c : Nat} (hσ : s_ok σ) (ht1 : 1 ≤ t) (ht2 : t ≤ 6) (hX : Lx mem σ t) (hL : LvC mem (s_n σ) L) (ho : lok (s_n σ) L) (hs : s < s_n σ) (hc : c < 4)
    (h : P (bi (!(List.range (s_n σ)).all (noc σ t L s c))) mem) : am_Ci m4_clashesWithShown (d + 1) [.ref 22, .int (nI (4 * s + c))] mem P := by
  have hn := hσ.1
  have loop : ∀ (r o : Nat), o + r = s_n σ → (List.range o).all (noc σ t L s c) = true → am_J m4_clashesWithShown (d + 1) 2 [.ref 22, .int (nI (4 * s + c)), .int (nI o)] [] mem (fun r mem' => ∃ x, r = some (.int x) ∧ P x mem') := by
    intro r
    induction r with
    | zero =>
      intro o ho' hall
      have : o = s_n σ := by omega
      subst this
      refine sg4_clashesWithShown_2 ⟨fun _ => am_eq h (by rw [hall]; rfl), fun q => absurd ?_ q⟩
      rw [hX.2.2.1]; exact Int32.le_refl _
    | succ r ih =>
      intro o ho' hall
      have e8 : vp_in (nI o) 8 := vp_in_nI (by omega) (by omega)
      have nx : noc σ t L s c o = true → am_J m4_clashesWithShown (d + 1) 47 [.ref 22, .int (nI (4 * s + c)), .int (nI o)] [] mem (fun r mem' => ∃ x, r = some (.int x) ∧ P x mem') := by
        intro q
        refine sg4_clashesWithShown_47 ?_
        rw [nI_1]
        exact ih (o + 1) (by omega) (by rw [all_succ, hall, q]; rfl)
      refine sg4_clashesWithShown_2 ⟨fun q => absurd q ?_, fun _ => ⟨e8, ?_⟩⟩
      · rw [hX.2.2.1, nI_leI (by omega) (by omega)]; omega
      · rw [nI_clamp (by omega), (hL o (by omega)).1, (hL o (by omega)).2, lv_9 ho (by omega)]
        refine ⟨fun q => nx ?_, fun q => ⟨e8, c6_boxOf ?_⟩⟩
        · unfold noc; rw [decide_eq_true q]; rfl
        · obtain ⟨c1, c2⟩ := lv_c ho (by omega) q
          rw [c1, box_nI]
          refine c0_doClash hσ ht1 ht2 hX.1 hs (by omega) hs hc (by omega) c2 hX.2.1 ⟨fun q1 => nx ?_, fun q1 => am_eq h ?_⟩
          · unfold noc; rw [bi_0.mp q1]; simp
          · have : noc σ t L s c o = false := by unfold noc; rw [bi_n0.mp q1, decide_eq_false q]; rfl
            rw [all_mono (o := o + 1) (by omega) (by rw [all_succ, this]; simp)]; rfl
  exact am_ci rfl rfl rfl (sg4_clashesWithShown_0 (loop (s_n σ) 0 (by omega) rfl))
theorem c4_show {d : Nat} {mem : am_Mem} {P : am_Mem → Prop} {σ : mp_S} {L : Lv} {s z : Nat} (hσ : s_ok σ) (hz : z < 6) (hX : Lx mem σ ((z : Int) + 1)) (hL : LvC mem (s_n σ) L) (ho : lok (s_n σ) L) (hs : s < s_n σ) (h9 : L.1 s = -9)
    (h : ∀ mem', sm 23 25 mem mem' → LvC mem' (s_n σ) (shw σ z s L) → P mem') : am_Cv m4_show (d + 2) [.ref 22, .int (nI s), .int (nI z)] mem P := by
  have hn := hσ.1
  have loop : ∀ (t c : Nat), c + t = 4 → nxt (may σ ((z : Int) + 1) L s) t c = nxt (may σ ((z : Int) + 1) L s) 4 0 → am_J m4_show (d + 2) 2 [.ref 22, .int (nI s), .int (nI z), .int (nI c), .null] [] mem (fun r mem' => r = none ∧ P mem') := by
    intro t
    induction t with
    | zero =>
      intro c hc he
      have : c = 4 := by omega
      subst this
      refine sg4_show_2 ⟨fun _ => ⟨rfl, h mem (sm_rf _ _ _) ?_⟩, fun q => absurd (show (4 : Int32) ≤ nI 4 from Int32.le_refl _) q⟩
      have e : shw σ z s L = L := by unfold shw; rw [if_pos h9, ← he, if_neg (by simp [nxt])]
      rw [e]; exact hL
    | succ t ih =>
      intro c hc he
      have e8 : vp_in (nI s) 8 := vp_in_nI (by omega) (by omega)
      have nx : may σ ((z : Int) + 1) L s c = false → am_J m4_show (d + 2) 50 [.ref 22, .int (nI s), .int (nI z), .int (nI c), .null] [] mem (fun r mem' => r = none ∧ P mem') := by
        intro q
        refine sg4_show_50 ?_
        rw [nI_1]
        refine ih (c + 1) (by omega) ?_
        rw [← he]; simp [nxt, q]
      refine sg4_show_2 ⟨fun q => absurd q ?_, fun _ => c6_boxOf ?_⟩
      · rw [show (4 : Int32) = nI 4 from rfl, nI_leI (by omega) (by omega)]; omega
      rw [box_nI]
      refine c0_isFree (d := d) hσ (by omega) (by omega) hX.1 hX.2.2.1 hs (by omega) ((hX.2.2.2 s hs).2 _ (by omega)) ⟨fun q => nx ?_, fun q => c4_clashesWithShown (d := d) hσ (by omega) (by omega) hX hL ho hs (by omega) ⟨fun q1 => nx ?_, fun q1 => ⟨e8, e8, rfl, ?_⟩⟩⟩
      · unfold may; rw [bi_0.mp q]; rfl
      · have : (List.range (s_n σ)).all (noc σ ((z : Int) + 1) L s c) = false := by have := bi_n0.mp q1; simpa using this
        unfold may; rw [this]; simp
      · have q2 : (List.range (s_n σ)).all (noc σ ((z : Int) + 1) L s c) = true := by have := bi_0.mp q1; simpa using this
        have hm : may σ ((z : Int) + 1) L s c = true := by unfold may; rw [bi_n0.mp q, q2]; rfl
        have he' : nxt (may σ ((z : Int) + 1) L s) 4 0 = c := by rw [← he]; simp [nxt, hm]
        rw [nI_clamp (by omega)]
        refine h _ (sm_set (sm_set (sm_rf _ _ _) (by omega) (by omega)) (by omega) (by omega)) ?_
        have e : shw σ z s L = (hset L.1 s z, hset L.2 s c) := by unfold shw; rw [if_pos h9, he', if_pos (by omega)]
        rw [e]
        intro i hi
        by_cases his : i = s
        · subst his
          rw [am_set_na _ _ (show (23 : Nat) ≠ 24 by decide), am_set_eq, am_set_eq, iz_nI, iz_nI]
          simp [hset]
        · rw [am_set_na _ _ (show (23 : Nat) ≠ 24 by decide), am_set_nj _ _ his, am_set_nj _ _ his, am_set_na _ _ (show (24 : Nat) ≠ 23 by decide)]
          simp only [hset, his, if_false]
          exact hL i hi
  exact am_cv rfl rfl rfl (sg4_show_0 (loop 4 0 (by omega) rfl))
theorem c4_grow {d : Nat} {mem : am_Mem} {P : am_Mem → Prop} {σ : mp_S} (hσ : s_ok σ) (hC : Ch mem σ) (h : ∀ mem', (∀ a, a < 8 ∨ (14 < a ∧ a < 23) ∨ 25 < a → mem' a = mem a) → LvC mem' (s_n σ) (lvl σ 6) → P mem') : am_Cv m4_grow (d + 3) [.ref 22] mem P := by
  have hn := hσ.1
  have hz := hσ.2.2.2.1
  refine am_cv rfl rfl rfl (sg4_grow_0 (c4_sortByWorth hσ hC (fun m1 a1 a2 a3 => ?_)))
  have hfr : ∀ m, sm 23 26 m1 m → ∀ a, a < 8 ∨ (14 < a ∧ a < 23) ∨ 25 < a → m a = mem a := fun m hm a ha => by rw [hm a (by omega), a1 a (by omega)]
  -- from a memory that differs in the boxes and in the LEVELS alone
  have key : ∀ (r z : Nat) (m : am_Mem), z + r = 6 → (∀ a, a < 8 ∨ (14 < a ∧ a < 23) ∨ 25 < a → m a = mem a) → Oc m (ordl σ) → LvC m (s_n σ) (lvl σ z) → am_J m4_grow (d + 3) 41 [.ref 22, .int (nI z), .null, .null] [] m (fun r mem' => r = none ∧ P mem') := by
    intro r
    induction r with
    | zero =>
      intro z m hzr hm ho hL
      have : z = 6 := by omega
      subst this
      exact sg4_grow_41 ⟨fun _ => ⟨rfl, h m hm hL⟩, fun q => absurd (show (6 : Int32) ≤ nI 6 from Int32.le_refl _) q⟩
    | succ r ih =>
      intro z m hzr hm ho hL
      have hCm : Ch m σ := hC.keep (fun a ha => hm a (by omega))
      refine sg4_grow_41 ⟨fun q => absurd q ?_, fun _ => ?_⟩
      · rw [show (6 : Int32) = nI 6 from rfl, nI_leI (by omega) (by omega)]; omega
      rw [hCm.2.2.1, show nI z + (1 : Int32) = iz ((z : Int) + 1) by rw [iz_nI, show (1 : Int32) = iz 1 from rfl, iz_add]]
      refine c0_measure (d := d) hσ hCm hz.1 hz.2 (by omega) (by omega) (fun m2 b1 b2 => ?_)
      have b2 : Bx m2 σ ((z : Int) + 1) (s_n σ) := b2
      have hC2 : Ch m2 σ := hCm.keep (fun a ha => b1 a (by omega))
      have hX2 : Lx m2 σ ((z : Int) + 1) := ⟨b2, hC2.cz (s_z σ)⟩
      -- the SITES in their order
      have turns : ∀ (r2 t : Nat) (m3 : am_Mem) (L : Lv), t + r2 = s_n σ → sm 23 25 m2 m3 → LvC m3 (s_n σ) L → lok (s_n σ) L → ((ordl σ).drop t).foldl (fun L s => shw σ z s L) L = lvl σ (z + 1) → am_J m4_grow (d + 3) 66 [.ref 22, .int (nI z), .int (nI t), .null] [] m3 (fun r mem' => r = none ∧ P mem') := by
        intro r2
        induction r2 with
        | zero =>
          intro t m3 L ht hs3 hL3 ho3 hf
          have : t = s_n σ := by omega
          subst this
          refine sg4_grow_66 ⟨fun _ => ?_, fun q => absurd ?_ q⟩
          · rw [nI_1]
            rw [List.drop_eq_nil_of_le (by omega)] at hf
            refine ih (z + 1) m3 (by omega) (fun a ha => ?_) (fun i hi => ?_) ?_
            · rw [hs3 a (by omega), b1 a (by omega)]; exact hm a ha
            · rw [hs3 25 (by omega), b1 25 (by omega)]; exact ho i hi
            · rw [← hf]; exact hL3
          · rw [hs3 1 (by omega), hC2.2.2.2.2.1]; exact Int32.le_refl _
        | succ r2 iht =>
          intro t m3 L ht hs3 hL3 ho3 hf
          have htl : t < (ordl σ).length := by omega
          have hmem : (ordl σ).getD t 0 < s_n σ := (ordv_mem.mp (getD_mem htl)).1
          have e25 : m3 25 t = nI ((ordl σ).getD t 0) := by rw [hs3 25 (by omega), b1 25 (by omega)]; exact ho t htl
          have hd : (ordl σ).drop t = (ordl σ).getD t 0 :: (ordl σ).drop (t + 1) := by
            rw [List.getD_eq_getElem?_getD, List.getElem?_eq_getElem htl]
            exact List.drop_eq_getElem_cons htl
          rw [hd, List.foldl_cons] at hf
          generalize (ordl σ).getD t 0 = s at *
          have k101 : ∀ (m4 : am_Mem), sm 23 25 m2 m4 → LvC m4 (s_n σ) (shw σ z s L) → am_J m4_grow (d + 3) 101 [.ref 22, .int (nI z), .int (nI t), .null] [] m4 (fun r mem' => r = none ∧ P mem') := by
            intro m4 g1 g2
            refine sg4_grow_101 ?_
            rw [nI_1]
            exact iht (t + 1) m4 _ (by omega) g1 g2 (shw_ok (by omega) ho3) hf
          refine sg4_grow_66 ⟨fun q => absurd q ?_, fun _ => ⟨vp_in_nI (by omega) (by omega), ?_⟩⟩
          · rw [hs3 1 (by omega), hC2.2.2.2.2.1, nI_leI (by omega) (by omega)]; omega
          · rw [nI_clamp (n := t) (by omega), e25, nI_clamp (by omega), (hL3 s hmem).1, lv_9 ho3 hmem]
            refine ⟨vp_in_nI (by omega) (by omega), fun q => k101 m3 hs3 ?_, fun q => ?_⟩
            · have e : shw σ z s L = L := by unfold shw; rw [if_neg q]
              rw [e]; exact hL3
            · exact c4_show (d := d) hσ (by omega) (hX2.keep (fun a h1 h2 => hs3 a (by omega))) hL3 ho3 hmem q (fun m4 g1 g2 => k101 m4 (sm_tr hs3 g1) g2)
      exact turns (s_n σ) 0 m2 (lvl σ z) (by omega) (sm_rf _ _ _) (fun i hi => by rw [b1 23 (by omega), b1 24 (by omega)]; exact hL i hi) (lvl_ok σ z (by omega)) rfl
  -- all are NONE at first
  have init : ∀ (r i : Nat) (m : am_Mem), i + r = s_n σ → sm 23 25 m1 m → (∀ j, j < i → m 23 j = -9 ∧ m 24 j = -9) → am_J m4_grow (d + 3) 6 [.ref 22, .int (nI i), .null, .null] [] m (fun r mem' => r = none ∧ P mem') := by
    intro r
    induction r with
    | zero =>
      intro i m hi hm hj
      have : i = s_n σ := by omega
      subst this
      refine sg4_grow_6 ⟨fun _ => key 6 0 m (by omega) (hfr m (sm_wd hm (by omega) (by omega))) (fun i hi => by rw [hm 25 (by omega)]; exact a3 i hi) (fun i hi => hj i hi), fun q => absurd ?_ q⟩
      rw [hm 1 (by omega), a1 1 (by omega), hC.2.2.2.2.1]; exact Int32.le_refl _
    | succ r ih =>
      intro i m hi hm hj
      have e8 : vp_in (nI i) 8 := vp_in_nI (by omega) (by omega)
      refine sg4_grow_6 ⟨fun q => absurd q ?_, fun _ => ⟨e8, e8, ?_⟩⟩
      · rw [hm 1 (by omega), a1 1 (by omega), hC.2.2.2.2.1, nI_leI (by omega) (by omega)]; omega
      · rw [nI_1, nI_clamp (by omega)]
        refine ih (i + 1) _ (by omega) (sm_set (sm_set hm (by omega) (by omega)) (by omega) (by omega)) (fun j hj' => ?_)
        by_cases hji : j = i
        · subst hji
          rw [am_set_na _ _ (show (23 : Nat) ≠ 24 by decide), am_set_eq, am_set_eq]; exact ⟨rfl, rfl⟩
        · rw [am_set_na _ _ (show (23 : Nat) ≠ 24 by decide), am_set_nj _ _ hji, am_set_nj _ _ hji, am_set_na _ _ (show (24 : Nat) ≠ 23 by decide)]
          exact hj j (by omega)
  exact init (s_n σ) 0 m1 (by omega) (sm_rf _ _ _) (fun j hj => absurd hj (by omega))
